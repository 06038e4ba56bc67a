import java.io.IOException;

/** What promises 18 to 22 say of bounds, a sentence a test: what can have been, when to look, images, who is asked. */
public final class BoundsAskedTest {
    private static final int BAD = -1, NOT = -2, NONE = -4, NULL = -11, CAST = -12, INDEX = -13;
    private static final int MAX = Integer.MAX_VALUE, MIN = Integer.MIN_VALUE;
    private static final int IRON = 0, BRASS = 1, GLASS = 2, SILVER = 3;
    private static Sentences doc;

    public static void main(String[] args) throws IOException {
        doc = new Sentences("BoundsAskedTest");
        been();
        beenBad();
        look();
        image();
        imageWithout();
        restoreShrinks();
        restoreNone();
        asked();
        askedAnswers();
        askedBad();
        askedMachine();
        askedIndex();
        askedNot();
        askedTwice();
        askedNone();
        doc.endOf(18, 22);
    }

    private static void been() {
        doc.promise(18, "a KIND shows so much (0 .. 30) on a DAY (0 .. 99)");
        TellKeys x = new TellKeys();
        int[][] dues = {{IRON, 0, 0, 31}, {BRASS, 0, 0, 31}, {GLASS, 0, 0, 31}, {SILVER, 0, 0, 31}, {IRON, 30, 0, 0},
            {IRON, 0, 99, 31}, {BRASS, 0, 99, 91}, {GLASS, 0, 99, 31}, {SILVER, 0, 99, 91}, {IRON, 30, 99, 70},
            {BRASS, 30, 99, 68}, {GLASS, 30, 99, 85}, {SILVER, 30, 99, 68}, {IRON, 30, 29, 0}, {IRON, 30, 30, 1},
            {BRASS, 30, 31, 0}, {BRASS, 30, 32, 1}, {GLASS, 30, 14, 0}, {GLASS, 30, 15, 1}, {GLASS, 29, 14, 0},
            {GLASS, 29, 15, 1}, {GLASS, 29, 16, 2}, {IRON, 1, 1, 30}, {IRON, 1, 2, 31}};
        for (int[] of : dues) {
            doc.is("been(" + of[0] + ", " + of[1] + ", " + of[2] + ")", of[3], x.been(of[0], of[1], of[2]));
        }
    }

    private static void beenBad() {
        doc.promise(18, "BAD.");
        doc.bad(new TellKeys(), "been", new int[] {1, 1, 1}, 0, 3, 0, 30, 0, 99);
    }

    private static void look() {
        TellKeys x = new TellKeys();
        doc.promise(19, "LOOK, by a KIND, MINUTES (0 .. 30): RESTS (0), the first (1)");
        int[] stays = {0, 1, 30};
        int[] rests = {7, 1, 1};
        int[][] first = {{0, 66, 66}, {0, 46, 46}, {0, 66, 66}, {0, 46, 46}};
        for (int kind = 0; kind < 4; kind++) {
            for (int i = 0; i < 3; i++) {
                doc.is("rests of " + kind + ", " + stays[i], rests[i], x.look(kind, stays[i], 0));
                doc.is("the first of " + kind + ", " + stays[i], first[kind][i], x.look(kind, stays[i], 1));
            }
        }
        doc.promise(19, "BAD;");
        doc.bad(x, "look", new int[] {1, 1, 1}, 0, 3, 0, 30, 0, 1);
        doc.promise(19, "NONE: there are none (1)");
        for (int kind = 0; kind < 4; kind++) {
            for (int minutes = 0; minutes <= 30; minutes++) {
                doc.holds("some of " + kind + ", " + minutes + ", so a first one",
                    x.look(kind, minutes, 0) > 0 && x.look(kind, minutes, 1) >= 0);
            }
        }
    }

    private static void image() {
        doc.promise(20, "All but SHEETS, THE TAPE is kept as an IMAGE: 1");
        TellKeys x = Due.with("0-1l0,1-g", 1, SILVER, GLASS);
        x.next();
        x.visit(1, 1, 8);
        x.sheet(0, 2, 3);
        x.type('n', 1);
        doc.is("image", 1, x.image());
        String before = Due.state(x);
        x.week();
        x.type(Due.word("n;w10"), 5);
        doc.is("a week", 2, x.week());
        x.change(1, 3);
        x.door(4, 5, 6);
        x.key(IRON, 0);
        Due.house(x, "7-8");
        x.drop(0);
        x.sheet(1, 1, 6);
        x.type(';', 1);
        doc.holds("all is otherwise now", !before.equals(Due.state(x)));
        doc.promise(21, "All is as it was then: 1");
        doc.is("restore", 1, x.restore());
        doc.holds("all is as it was", before.equals(Due.state(x)));
        doc.is("the tape is not", 2, x.type('n', 1));
        doc.is("sheet 0 is not", NULL, x.drop(0));
        doc.is("nor is sheet 1", 6, x.drop(1));
        doc.is("it reads ;n", -20, x.week());
        x.next();
        x.visit(1, 1, 30);
        doc.is("restore once more", 1, x.restore());
        doc.holds("all is as it was, once more", before.equals(Due.state(x)));
    }

    private static void imageWithout() {
        doc.promise(20, "is kept as an IMAGE: 1");
        TellKeys x = new TellKeys();
        String before = Due.state(x);
        doc.is("of an empty house", 1, x.image());
        x.door(0, 1, 8);
        x.key(IRON, 1);
        x.next();
        doc.is("restore", 1, x.restore());
        doc.holds("nothing is there", before.equals(Due.state(x)));
        x.next();
        doc.is("a new image in place of it", 1, x.image());
        x.next();
        x.restore();
        doc.is("of the new one", 1, x.count(3));
        x.key(GLASS, 1);
        x.restore();
        doc.is("a key behind an image", BAD, x.told(0, 0));
        doc.is("it comes anew", 0, x.key(BRASS, 0));
        doc.is("of its own kind", BRASS, x.told(0, 0));
        doc.is("it does not tell", 0, x.told(0, 1));
    }

    private static void restoreShrinks() {
        doc.promise(21, "All is as it was then: 1");
        TellKeys x = Due.with("0-1l0", 0, IRON);
        x.image();
        Due.house(x, "0-1l0,1-2l1,2-g,0-3");
        x.next();
        x.key(IRON, 1);
        x.change(1, 0);
        x.visit(0, 2, 9);
        x.restore();
        doc.is("no door 1", BAD, x.of(1, 0));
        doc.is("no way by it", 1 | 1 << 1 | 1 << 10, x.reach(1));
        doc.is("no key 1", BAD, x.told(1, 0));
        doc.is("no set with it", BAD, x.reach(2));
        doc.is("no window", 0, x.count(5));
        doc.is("no stain", 0, x.count(2));
        doc.is("day 0", 0, x.count(3));
        x.key(IRON, 1);
        doc.is("a key in its place is clean", 0, x.told(1, 3));
        doc.is("of no day", 0, x.told(1, 4));
        doc.is("on THE HOOK", 4, x.told(1, 2));
    }

    private static void restoreNone() {
        doc.promise(21, "NONE: there is none");
        TellKeys x = new TellKeys();
        doc.is("at first", NONE, x.restore());
        x.door(0, 1, 8);
        x.next();
        doc.is("later", NONE, x.restore());
        doc.is("nothing came of it", 1, x.count(3));
        x.image();
        doc.is("there is one", 1, x.restore());
        doc.is("there is one still", 1, x.restore());
    }

    /** Today is 1; keys 0 to 2 have a stain of today: of iron, brass, glass; 3 to 7 have none. */
    private static TellKeys withKeys() {
        TellKeys x = Due.with("0-1l0,1-2l1,2-3l2", 0, IRON, BRASS, GLASS, IRON, IRON, IRON, IRON, IRON);
        x.next();
        x.visit(0, 3, 5);
        x.sheet(0, 2, 24);
        return x;
    }

    private static void asked() {
        doc.promise(22, "ASKED of n SISTERS (1 .. 6), two items each (a KEY, a DAY TODAY .. 999)");
        TellKeys x = withKeys();
        for (int i = 0; i < 6; i++) {
            x.item(0, 2, 2 * i, 7 - i);
            x.item(0, 2, 2 * i + 1, i == 0 ? 1 : 999);
        }
        int[] changes = {0, 0, 0, 0, 0, 1};
        for (int n = 1; n <= 6; n++) {
            doc.is("of " + n, changes[n - 1], x.asked(0, 2, 0, n, -1));
        }
        x.item(0, 2, 0, 8);
        doc.is("a key there is not", NOT, x.asked(0, 2, 0, 1, -1));
        x.item(0, 2, 0, 0);
        doc.is("key 0", 0, x.asked(0, 2, 0, 1, -1));
        x.item(0, 2, 1, 0);
        doc.is("a day that is over", NOT, x.asked(0, 2, 0, 1, -1));
        x.item(0, 2, 1, 2);
        doc.is("tomorrow it shows", NONE, x.asked(0, 2, 0, 1, -1));
        x.item(0, 2, 0, 3);
        x.item(0, 2, 1, 1000);
        doc.is("a day too far", NOT, x.asked(0, 2, 0, 1, -1));
        x.item(0, 2, 1, 999);
        doc.is("the last day", 0, x.asked(0, 2, 0, 1, -1));
        doc.promise(22, "of a SHEET, taken as a row of a LANE, from one on");
        int[] items = {6, 999, 0, 2, 4, 1};
        for (int i = 0; i < 6; i++) {
            x.item(0, 2, 18 + i, items[i]);
        }
        doc.is("from 18 on", 1, x.asked(0, 2, 18, 3, -1));
        doc.is("from 20 on", 1, x.asked(0, 2, 20, 2, -1));
        doc.is("from 22 on", 0, x.asked(0, 2, 22, 1, -1));
        doc.is("from 19 on a day is no key", NOT, x.asked(0, 2, 19, 1, -1));
    }

    private static void askedAnswers() {
        doc.promise(22, "the fewest CHANGES (-1), whose KEY the i-th has (0 .. n - 1)");
        TellKeys x = withKeys();
        Due.fill(x, 0, 2, 0, 2, 1, 4, 3, 1, 4, 3, 5, 999, 2, 1);
        doc.is("changes", 2, x.asked(0, 2, 0, 6, -1));
        int[] row = {1, 2, 0, 3, 4, 5};
        for (int i = 0; i < 6; i++) {
            doc.is("whose the " + i + "-th has", row[i], x.asked(0, 2, 0, 6, i));
        }
        doc.is("a 7-th", BAD, x.asked(0, 2, 0, 6, 6));
        doc.is("ahead of the changes", BAD, x.asked(0, 2, 0, 6, -2));
        for (int n = 1; n <= 6; n++) {
            doc.is("no " + n + "-th of " + n, BAD, x.asked(0, 2, 0, n, n));
        }
    }

    private static void askedBad() {
        doc.promise(22, "BAD;");
        TellKeys x = withKeys();
        Due.fill(x, 0, 2, 3, 999, 4, 999, 5, 999, 6, 999, 7, 999, 0, 1);
        int[][] bad = {{-1, 2, 0, 2, 0}, {4, 2, 0, 2, 0}, {MIN, 2, 0, 2, 0}, {MAX, 2, 0, 2, 0}, {0, -1, 0, 2, 0},
            {0, 3, 0, 2, 0}, {0, MIN, 0, 2, 0}, {0, MAX, 0, 2, 0}, {0, 2, 0, 0, -1}, {0, 2, 0, 7, 0}, {0, 2, 0, -1, -1},
            {0, 2, 0, MIN, -1}, {0, 2, 0, MAX, 0}, {0, 2, 0, 2, -2}, {0, 2, 0, 2, 2}, {0, 2, 0, 2, MIN},
            {0, 2, 0, 2, MAX}};
        for (int[] of : bad) {
            doc.is("asked " + of[0] + " " + of[1] + " " + of[2] + " " + of[3] + " " + of[4], BAD,
                x.asked(of[0], of[1], of[2], of[3], of[4]));
        }
        doc.is("n of 1", 0, x.asked(0, 2, 0, 1, 0));
        doc.is("n of 6", 5, x.asked(0, 2, 0, 6, 5));
        for (int sheet = 1; sheet < 4; sheet++) {
            doc.is("sheet " + sheet + " may be asked of", NULL, x.asked(sheet, 0, 0, 1, 0));
        }
    }

    private static void askedMachine() {
        doc.promise(22, "NULL;");
        TellKeys x = withKeys();
        doc.is("nothing there", NULL, x.asked(1, 2, 0, 1, 0));
        x.drop(0);
        doc.is("nothing there now", NULL, x.asked(0, 2, 0, 1, 0));
        doc.promise(22, "CAST;");
        for (int lane = 0; lane < 3; lane++) {
            x.sheet(2, lane, 2);
            Due.fill(x, 2, lane, 3, 100);
            for (int as = 0; as < 3; as++) {
                doc.is("a row of " + lane + " as one of " + as, as == lane ? 0 : CAST, x.asked(2, as, 0, 1, 0));
            }
        }
    }

    private static void askedIndex() {
        doc.promise(22, "INDEX;");
        TellKeys x = withKeys();
        for (int n = 1; n <= 6; n++) {
            int last = 24 - 2 * n;
            doc.is("the last place for " + n + ", day 0 is over", NOT, x.asked(0, 2, last, n, -1));
            doc.is("one behind it for " + n, INDEX, x.asked(0, 2, last + 1, n, -1));
            doc.is("ahead of the row for " + n, INDEX, x.asked(0, 2, -1, n, -1));
            int[] far = {24, 25, MAX, MAX - 1, MIN, -2};
            for (int from : far) {
                doc.is("from " + from + " for " + n, INDEX, x.asked(0, 2, from, n, -1));
            }
        }
        x.sheet(1, 2, 0);
        doc.is("of a row of none", INDEX, x.asked(1, 2, 0, 1, -1));
        x.sheet(1, 2, 1);
        doc.is("of a row of one", INDEX, x.asked(1, 2, 0, 1, -1));
    }

    private static void askedNot() {
        doc.promise(22, "NOT: they are not as told");
        TellKeys x = withKeys();
        int[] keys = {-1, 8, 9, MIN, MAX, 256, 65536};
        for (int key : keys) {
            Due.fill(x, 0, 2, 3, 999, key, 999);
            doc.is("key " + key, NOT, x.asked(0, 2, 0, 2, -1));
            doc.is("not asked of", 0, x.asked(0, 2, 0, 1, -1));
        }
        int[] days = {0, -1, 1000, MIN, MAX, 65536 + 5};
        for (int day : days) {
            Due.fill(x, 0, 2, 3, 999, 4, day);
            doc.is("day " + day, NOT, x.asked(0, 2, 0, 2, -1));
        }
        doc.is("no keys", NOT, withoutKeys().asked(0, 2, 0, 1, -1));
    }

    private static TellKeys withoutKeys() {
        TellKeys x = new TellKeys();
        x.sheet(0, 2, 2);
        return x;
    }

    private static void askedTwice() {
        doc.promise(22, "a KEY comes twice");
        TellKeys x = withKeys();
        for (int twice = 0; twice < 5; twice++) {
            Due.fill(x, 0, 2, 3, 1, 4, 1, 5, 1, 6, 1, 7, 1, 3 + twice, 1);
            doc.is("the last is the " + twice + "-th once more", NOT, x.asked(0, 2, 0, 6, -1));
            doc.is("without it", 0, x.asked(0, 2, 0, 5, -1));
        }
        Due.fill(x, 0, 2, 0, 999, 0, 999);
        doc.is("ahead of none that is clean", NOT, x.asked(0, 2, 0, 2, -1));
    }

    private static void askedNone() {
        doc.promise(22, "NONE: it can't be.");
        TellKeys x = withKeys();
        Due.fill(x, 0, 2, 0, 2);
        doc.is("iron tomorrow", NONE, x.asked(0, 2, 0, 1, -1));
        doc.is("whose", NONE, x.asked(0, 2, 0, 1, 0));
        Due.fill(x, 0, 2, 1, 4);
        doc.is("brass three days on", NONE, x.asked(0, 2, 0, 1, -1));
        Due.fill(x, 0, 2, 1, 3);
        doc.is("brass two days on", 0, x.asked(0, 2, 0, 1, -1));
        Due.fill(x, 0, 2, 3, 999, 4, 999, 5, 999, 6, 999, 7, 999, 2, 2);
        doc.is("five clean ones for six", NONE, x.asked(0, 2, 0, 6, -1));
        doc.is("whose the last has", NONE, x.asked(0, 2, 0, 6, 5));
        doc.is("five for five", 0, x.asked(0, 2, 0, 5, -1));
        x.item(0, 2, 1, 1);
        doc.is("one of them is asked today", 1, x.asked(0, 2, 0, 6, -1));
    }
}
