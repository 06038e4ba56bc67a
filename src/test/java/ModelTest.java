/** Long runs of calls, drawn by a fixed row of numbers, on the program and on the model: all answers must be alike. */
public final class ModelTest {
    private static final int RUNS = 3000, CALLS = 512, MOST_IN_A_ROUND = 140;
    private static final int[] EDGES = {-1, -2, Integer.MIN_VALUE, Integer.MAX_VALUE, 1000, 999, 100, 31, 25, 17, 11, 9};
    private static final Due DUE = new Due("ModelTest");

    private long state = 20_261_118;
    private TellKeys x;
    private Model m;

    public static void main(String[] args) {
        new ModelTest().run();
        DUE.end();
    }

    private void run() {
        for (int run = 0; run < RUNS; run++) {
            x = new TellKeys();
            m = new Model();
            calls(run);
        }
    }

    private int draw(int below) {
        state = state * 6364136223846793005L + 1442695040888963407L;
        return (int) ((state >>> 33) % below);
    }

    /** A number low .. high, now and then one that is not. */
    private int pick(int low, int high) {
        if (draw(40) == 0) {
            return EDGES[draw(EDGES.length)];
        }
        return draw(60) == 0 ? high + 1 : low + draw(high - low + 1);
    }

    private int pickOr(int unsaid, int low, int high) {
        return draw(2) == 0 ? unsaid : pick(low, high);
    }

    private void calls(int run) {
        long start = DUE.answers();
        int made = draw(9);
        for (int i = 0; i < made; i++) {
            int kind = pick(0, 3);
            int tells = draw(4) == 0 ? pick(0, 1) : 1;
            DUE.is(run + ": key " + kind + " " + tells, m.key(kind, tells), x.key(kind, tells));
            int to = draw(3) == 0 ? pick(0, 4) : 0;
            DUE.is(run + ": change " + i + " " + to, m.change(i, to), x.change(i, to));
        }
        for (int sheet = draw(3); sheet < 3; sheet++) {
            DUE.is(run + ": sheet " + sheet, m.sheet(sheet, sheet, 24), x.sheet(sheet, sheet, 24));
        }
        text(run, draw(8) != 0, false);
        while (DUE.answers() - start < CALLS - MOST_IN_A_ROUND) {
            for (int i = 0; i < 4; i++) {
                act(run, draw(12));
            }
            ask(run, draw(9));
            ask(run, draw(9));
            onSheets(run, draw(9));
            onSheets(run, 8);
        }
    }

    private void act(int run, int which) {
        int a = draw(2) == 0 ? 0 : pick(0, 3);
        int b = pick(0, Math.max(0, m.count(1) - 1));
        switch (which) {
            case 0: case 1: case 2: case 3:
                int room = pick(0, 10);
                int minutes = pick(0, 30);
                DUE.is(run + ": visit " + a + " " + room + " " + minutes, m.visit(a, room, minutes), x.visit(a, room, minutes));
                break;
            case 4: case 5:
                int to = pick(0, 4);
                DUE.is(run + ": change " + b + " " + to, m.change(b, to), x.change(b, to));
                break;
            case 6:
                int whose = draw(2) == 0 ? m.told(b, 2) : a;
                DUE.is(run + ": wash " + whose + " " + b, m.wash(whose, b), x.wash(whose, b));
                break;
            case 7:
                DUE.is(run + ": next", m.next(), x.next());
                break;
            case 8:
                text(run, draw(4) == 0, true);
                break;
            case 9:
                int c = pick(0, 10);
                int d = pick(0, 10);
                int lock = pick(0, 8);
                DUE.is(run + ": door " + c + " " + d + " " + lock, m.door(c, d, lock), x.door(c, d, lock));
                break;
            case 10:
                int tells = draw(2);
                DUE.is(run + ": key " + a + " " + tells, m.key(a, tells), x.key(a, tells));
                break;
            default:
                boolean back = draw(3) == 0;
                DUE.is(run + ": image or restore", back ? m.restore() : m.image(), back ? x.restore() : x.image());
                break;
        }
    }

    private void ask(int run, int which) {
        int a = draw(2) == 0 ? 0 : pick(0, 3);
        int b = pick(0, Math.max(0, m.count(1) - 1));
        switch (which) {
            case 0:
                int far = draw(2);
                int room = pick(0, 10);
                DUE.is(run + ": seen " + a + " " + room + " " + far, m.seen(a, room, far), x.seen(a, room, far));
                break;
            case 1:
                int set = pick(0, 255) >> draw(9);
                DUE.is(run + ": reach " + set, m.reach(set), x.reach(set));
                break;
            case 2:
                int many = pickOr(-1, 0, 5);
                int lock = pickOr(-1, 0, 8);
                int away = pickOr(-1, 1, 5);
                DUE.is(run + ": fits " + many + " " + lock + " " + away, m.fits(many, lock, away), x.fits(many, lock, away));
                break;
            case 3:
                int much = pick(0, 30);
                int day = pick(0, 99);
                DUE.is(run + ": been " + a + " " + much + " " + day, m.been(a, much, day), x.been(a, much, day));
                break;
            case 4:
                int stay = pick(0, 30);
                int what = pick(0, 1);
                DUE.is(run + ": look " + a + " " + stay + " " + what, m.look(a, stay, what), x.look(a, stay, what));
                break;
            case 5:
                int then = m.count(3) + pick(0, 20);
                DUE.is(run + ": shown " + b + " " + then, m.shown(b, then), x.shown(b, then));
                break;
            case 6:
                int of = pick(0, 15);
                int side = pick(0, 2);
                DUE.is(run + ": of " + of + " " + side, m.of(of, side), x.of(of, side));
                break;
            case 7:
                int which4 = pick(0, 4);
                DUE.is(run + ": told " + b + " " + which4, m.told(b, which4), x.told(b, which4));
                break;
            default:
                int how = pick(0, 5);
                DUE.is(run + ": count " + how, m.count(how), x.count(how));
                break;
        }
    }

    private void onSheets(int run, int which) {
        int sheet = pick(0, 2);
        int lane = draw(12) == 0 ? pick(0, 2) : sheet % 3;
        int i = pick(0, 24);
        int j = draw(3) == 0 ? pick(0, 24) : draw(5);
        int n = pick(0, 24);
        int other = draw(2) == 0 ? sheet : pick(0, 3);
        switch (which) {
            case 0:
                int size = draw(2) == 0 ? 24 : n;
                DUE.is(run + ": sheet " + sheet + " " + lane + " " + size, m.sheet(sheet, lane, size), x.sheet(sheet, lane, size));
                break;
            case 1:
                DUE.is(run + ": sheet 3 " + lane + " " + n, m.sheet(3, lane, n), x.sheet(3, lane, n));
                break;
            case 2:
                int dropped = draw(9) == 0 ? sheet : 3;
                DUE.is(run + ": drop " + dropped, m.drop(dropped), x.drop(dropped));
                break;
            case 3: case 4:
                int v = pick(0, 7);
                DUE.is(run + ": item " + sheet + " " + lane + " " + i + " " + v, m.item(sheet, lane, i, v), x.item(sheet, lane, i, v));
                break;
            case 5:
                int some = n / 3;
                DUE.is(run + ": copy " + sheet + " " + i + " " + other + " " + j + " " + some,
                    m.copy(sheet, i, other, j, some), x.copy(sheet, i, other, j, some));
                break;
            case 6:
                DUE.is(run + ": film " + sheet + " " + lane + " " + j, m.film(sheet, lane, j), x.film(sheet, lane, j));
                break;
            default:
                asked(run, sheet, lane);
                break;
        }
    }

    /** Most often of unlike keys on days soon, whatever the sheet held. */
    private void asked(int run, int sheet, int lane) {
        int n = pick(1, 6);
        int from = draw(4);
        if (draw(5) != 0 && n >= 1 && n <= 6) {
            int first = draw(8);
            for (int k = 0; k < n; k++) {
                int key = draw(50) == 0 ? pick(0, 7) : (first + 3 * k) % Math.max(1, m.count(1));
                int day = m.count(3) + (draw(30) == 0 ? pick(0, 4) : draw(4));
                DUE.is(run + ": item of asked", m.item(sheet, lane, from + 2 * k, key), x.item(sheet, lane, from + 2 * k, key));
                DUE.is(run + ": item of asked", m.item(sheet, lane, from + 2 * k + 1, day), x.item(sheet, lane, from + 2 * k + 1, day));
            }
        }
        for (int i = -1; i <= Math.min(n, 6); i++) {
            DUE.is(run + ": asked " + sheet + " " + lane + " " + from + " " + n + " " + i,
                m.asked(sheet, lane, from, n, i), x.asked(sheet, lane, from, n, i));
        }
    }

    /** A house or a week: as it should be, or with a few signs that are not. */
    private void text(int run, boolean house, boolean mayFault) {
        StringBuilder text = new StringBuilder();
        int parts = 1 + draw(house ? 16 : 9) + (draw(30) == 0 ? 2 : 0);
        for (int i = 0; i < parts; i++) {
            text.append(i == 0 ? "" : house ? "," : ";").append(house ? doorText() : actText());
        }
        String signs = "0123456789gl-,;:>vwcn xE";
        for (int faults = mayFault && draw(3) == 0 ? 1 + draw(2) : 0; faults > 0; faults--) {
            int at = draw(text.length());
            text.replace(at, at + draw(2), draw(3) == 0 ? "" : signs.charAt(draw(signs.length())) + "");
            text.append(text.length() == 0 ? " " : "");
        }
        for (int blanks = draw(3) == 0 ? draw(6) : 0; blanks > 0; blanks--) {
            text.insert(draw(text.length() + 1), ' ');
        }
        for (int at = 0; at < text.length(); at += 8) {
            String part = text.substring(at, Math.min(text.length(), at + 8));
            long word = Due.word(part);
            DUE.is(run + ": type \"" + part + "\"", m.type(word, part.length()), x.type(word, part.length()));
        }
        if (house) {
            DUE.is(run + ": house \"" + text + "\"", m.house(), x.house());
        } else {
            DUE.is(run + ": week \"" + text + "\"", m.week(), x.week());
        }
    }

    private String doorText() {
        String places = "0123456789g";
        int a = draw(11);
        int b = (a + 1 + draw(10)) % 11;
        if (a + b == 10 && a * b == 0) {
            b = 1 + draw(9);
        }
        int locks = Math.max(1, m.count(1));
        return places.charAt(a) + "-" + places.charAt(b) + (draw(5) < 3 ? "l" + (draw(20) == 0 ? draw(8) : draw(locks)) : "");
    }

    private String actText() {
        int key = draw(Math.max(1, m.count(1)));
        switch (draw(6)) {
            case 0: return "w" + draw(4) + key;
            case 1: return "c" + key + ">" + draw(5);
            case 2: return "n";
            default: return "v" + draw(2) * draw(4) + ">" + draw(10) + ":" + "000".substring(draw(4)) + draw(31);
        }
    }
}
