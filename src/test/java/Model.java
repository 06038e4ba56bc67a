import java.util.ArrayList;
import java.util.Arrays;
import java.util.HashSet;
import java.util.List;
import java.util.Set;

/**
 * The document once more, by other ways than the program's: every way through the house is tried, stains grow day by
 * day, texts are read by what may stand next, sisters change till one row fits. It is slow and takes what room it wants.
 */
final class Model {
    private List<int[]> doors = new ArrayList<>();
    private List<int[]> keys = new ArrayList<>();
    private int today = 0;
    private List<int[]> oldDoors = null;
    private List<int[]> oldKeys = null;
    private int oldToday = 0;
    private String tape = "";
    private final Object[] sheets = new Object[4];

    private static boolean in(int value, int low, int high) {
        return value >= low && value <= high;
    }

    int door(int a, int b, int lock) {
        if (!in(a, 0, 10) || !in(b, 0, 10) || a == b || a + b == 10 && a * b == 0 || !in(lock, 0, 8)) {
            return -1;
        }
        if (doors.size() == 16) {
            return -3;
        }
        doors.add(new int[] {a, b, lock});
        return doors.size() - 1;
    }

    int key(int kind, int tells) {
        if (!in(kind, 0, 3) || !in(tells, 0, 1)) {
            return -1;
        }
        if (keys.size() == 8) {
            return -3;
        }
        keys.add(new int[] {kind, tells, 4, 0, 0});
        return keys.size() - 1;
    }

    int told(int key, int what) {
        return in(key, 0, keys.size() - 1) && in(what, 0, 4) ? keys.get(key)[what] : -1;
    }

    int of(int door, int what) {
        return in(door, 0, doors.size() - 1) && in(what, 0, 2) ? doors.get(door)[what] : -1;
    }

    int type(long w, int n) {
        if (!in(n, 1, 8)) {
            return -1;
        }
        String text = "";
        for (int i = 0; i < n; i++) {
            int sign = (int) (w % 256 + 256) % 256;
            w = Math.floorDiv(w, 256L);
            if (!in(sign, 32, 126)) {
                return -1;
            }
            text = (char) sign + text;
        }
        if (tape.length() + n > 160) {
            return -3;
        }
        tape += text;
        return tape.length();
    }

    /** What may stand behind the signs read so far of a HOUSE: E is the end. */
    private static String nextOfHouse(String door, int before) {
        switch (door.length()) {
            case 0: return "0123456789g";
            case 1: return "-";
            case 2:
                String others = "0123456789g".replace(door.substring(0, 1), "");
                return door.charAt(0) == '0' ? others.replace("g", "") : door.charAt(0) == 'g' ? others.replace("0", "") : others;
            case 3: return before < 15 ? "l,E" : "lE";
            case 4: return "01234567";
            default: return before < 15 ? ",E" : "E";
        }
    }

    int house() {
        String text = tape + "E";
        tape = "";
        List<int[]> read = new ArrayList<>();
        String door = "";
        for (int at = 0; at < text.length(); at++) {
            char sign = text.charAt(at);
            if (sign == ' ') {
                continue;
            }
            boolean end = at == text.length() - 1;
            String may = nextOfHouse(door, read.size());
            if (!end && sign == 'E' || may.indexOf(sign) < 0) {
                return -20 - at;
            }
            if (end || sign == ',') {
                read.add(new int[] {placeOf(door.charAt(0)), placeOf(door.charAt(2)),
                    door.length() > 3 ? door.charAt(4) - '0' : 8});
                door = "";
            } else {
                door += sign;
            }
        }
        doors = read;
        return doors.size();
    }

    private static int placeOf(char sign) {
        return sign == 'g' ? 10 : sign - '0';
    }

    private String keysThere() {
        return "01234567".substring(0, keys.size());
    }

    /** What may stand behind the signs read so far of an act; a number stands as one sign #. */
    private String nextOfWeek(String act) {
        String form = act.isEmpty() ? "" : act.substring(0, 1);
        int length = act.length();
        if (form.equals("v")) {
            return new String[] {"", "0123", ">", "0123456789", ":", "#", ";E"}[length];
        }
        if (form.equals("w")) {
            return new String[] {"", "0123", keysThere(), ";E"}[length];
        }
        if (form.equals("c")) {
            return new String[] {"", keysThere(), ">", "01234", ";E"}[length];
        }
        return form.equals("n") ? ";E" : "vwcn";
    }

    int week() {
        String text = tape + "E";
        tape = "";
        List<String> acts = new ArrayList<>();
        String act = "";
        String number = "";
        for (int at = 0; at < text.length(); at++) {
            char sign = text.charAt(at);
            if (sign == ' ') {
                continue;
            }
            boolean end = at == text.length() - 1;
            String may = nextOfWeek(act);
            if (may.equals("#")) {
                int till = at;
                while (Character.isDigit(text.charAt(till))) {
                    till++;
                }
                number = text.substring(at, till).replaceAll("^0+(?=.)", "");
                if (till == at || number.length() > 2 || Integer.parseInt(number) > 30) {
                    return -20 - at;
                }
                act += "#";
                at = till - 1;
            } else if (!end && sign == 'E' || may.indexOf(sign) < 0) {
                return -20 - at;
            } else if (end || sign == ';') {
                acts.add(act.replace("#", number));
                act = "";
            } else {
                act += sign;
            }
        }
        int done = 0;
        while (done < acts.size() && does(acts.get(done)) >= 0) {
            done++;
        }
        return done;
    }

    private int does(String act) {
        if (act.equals("n")) {
            return next();
        }
        int first = act.charAt(1) - '0';
        if (act.startsWith("w")) {
            return wash(first, act.charAt(2) - '0');
        }
        int to = act.charAt(3) - '0';
        return act.startsWith("c") ? change(first, to) : visit(first, to, Integer.parseInt(act.substring(5)));
    }

    int count(int what) {
        int[] all = {doors.size(), keys.size(), 0, today, 0, 0};
        for (int[] key : keys) {
            all[2] += key[3] == 0 ? 0 : 1;
            all[4] += shows(key, today) == 0 ? 0 : 1;
        }
        for (int[] door : doors) {
            all[5] += door[0] == 10 || door[1] == 10 ? 1 : 0;
        }
        return in(what, 0, 5) ? all[what] : -1;
    }

    /** The stain comes through day by day. */
    private static int shows(int[] key, int day) {
        int shown = 0;
        for (int since = 1; since <= day - key[4]; since++) {
            int more = key[0] == 0 ? 1 : key[0] == 2 ? 2 : since > 2 ? 1 : 0;
            shown = Math.min(shown + more, key[3]);
        }
        return shown;
    }

    /** The best row of doors to a place, all ways tried that come to no place twice; null: none. */
    private List<Integer> way(int to, Set<Integer> with, boolean all) {
        List<List<Integer>> found = new ArrayList<>();
        found.add(null);
        goOn(0, to, with, all, new ArrayList<>(), new HashSet<>(Set.of(0)), found);
        return found.get(0);
    }

    private void goOn(int at, int to, Set<Integer> with, boolean all, List<Integer> row, Set<Integer> been,
            List<List<Integer>> found) {
        if (at == to) {
            if (found.get(0) == null || isBetter(row, found.get(0))) {
                found.set(0, new ArrayList<>(row));
            }
            return;
        }
        for (int door = 0; door <= 16; door++) {
            if (door >= doors.size() && door < 16) {
                continue;
            }
            int[] of = door == 16 ? new int[] {0, 10, 8} : doors.get(door);
            int beyond = of[0] == at ? of[1] : of[1] == at ? of[0] : -1;
            if (beyond >= 0 && (all || of[2] == 8 || with.contains(of[2])) && been.add(beyond)) {
                row.add(door);
                goOn(beyond, to, with, all, row, been, found);
                row.remove(row.size() - 1);
                been.remove(beyond);
            }
        }
    }

    private static boolean isBetter(List<Integer> row, List<Integer> than) {
        if (row.size() != than.size()) {
            return row.size() < than.size();
        }
        for (int i = 0; i < row.size(); i++) {
            if (!row.get(i).equals(than.get(i))) {
                return row.get(i) < than.get(i);
            }
        }
        return false;
    }

    private Set<Integer> ring(int sister, boolean silent) {
        Set<Integer> ring = new HashSet<>();
        for (int key = 0; key < keys.size(); key++) {
            if (keys.get(key)[2] == sister && (!silent || keys.get(key)[1] == 0)) {
                ring.add(key);
            }
        }
        return ring;
    }

    int visit(int sister, int room, int minutes) {
        if (!in(sister, 0, 3) || !in(room, 0, 10) || !in(minutes, 0, 30)) {
            return -1;
        }
        List<Integer> row = way(room, ring(sister, false), false);
        if (row == null) {
            return -2;
        }
        for (int door : row) {
            int lock = door == 16 ? 8 : doors.get(door)[2];
            if (lock < 8 && keys.get(lock)[1] == 1 && keys.get(lock)[3] < minutes) {
                keys.get(lock)[3] = minutes;
                keys.get(lock)[4] = today;
            }
        }
        return row.size() + minutes + row.size();
    }

    int wash(int sister, int key) {
        if (!in(sister, 0, 3) || !in(key, 0, keys.size() - 1)) {
            return -1;
        }
        int[] of = keys.get(key);
        if (of[2] != sister || of[0] != 3) {
            return -2;
        }
        of[3] >>= 1;
        of[4] = of[3] == 0 ? 0 : of[4];
        return of[3];
    }

    int change(int key, int to) {
        if (!in(key, 0, keys.size() - 1) || !in(to, 0, 4)) {
            return -1;
        }
        int was = keys.get(key)[2];
        keys.get(key)[2] = to;
        return was == to ? -2 : was;
    }

    int next() {
        return today == 999 ? -3 : ++today;
    }

    int shown(int key, int day) {
        return in(key, 0, keys.size() - 1) && in(day, today, 999) ? shows(keys.get(key), day) : -1;
    }

    int seen(int sister, int room, int what) {
        if (!in(sister, 0, 3) || !in(room, 0, 10) || !in(what, 0, 1)) {
            return -1;
        }
        List<Integer> row = way(room, ring(sister, what == 1), false);
        return row == null ? -4 : 2 * row.size();
    }

    int reach(int set) {
        Set<Integer> with = new HashSet<>();
        for (int key = 0; key < 32; key++) {
            if ((set >>> key) % 2 != 0) {
                with.add(key);
                if (key >= keys.size()) {
                    return -1;
                }
            }
        }
        int rooms = 0;
        for (int room = 0; room <= 10; room++) {
            rooms += way(room, with, false) == null ? 0 : 1 << room;
        }
        return rooms;
    }

    int fits(int many, int lock, int far) {
        if (!in(many, -1, 16) || !in(lock, -1, 8) || !in(far, -1, 10) || far == 0) {
            return -1;
        }
        int rooms = 0;
        for (int room = 1; room < 10; room++) {
            int its = 0;
            boolean hasLock = false;
            for (int[] door : doors) {
                if (door[0] == room || door[1] == room) {
                    its++;
                    hasLock |= door[2] == lock;
                }
            }
            List<Integer> row = far < 0 ? null : way(room, Set.of(), true);
            boolean farFits = far < 0 || row != null && row.size() == far;
            rooms += (many < 0 || its == many) && (lock < 0 || hasLock) && farFits ? 1 << room : 0;
        }
        return rooms;
    }

    int been(int kind, int much, int day) {
        if (!in(kind, 0, 3) || !in(much, 0, 30) || !in(day, 0, 99)) {
            return -1;
        }
        int stains = 0;
        for (int minutes = 0; minutes <= 30; minutes++) {
            for (int on = 0; on <= (minutes == 0 ? 0 : day); on++) {
                stains += shows(new int[] {kind, 1, 0, minutes, on}, day) == much ? 1 : 0;
            }
        }
        return stains;
    }

    int look(int kind, int minutes, int what) {
        if (!in(kind, 0, 3) || !in(minutes, 0, 30) || !in(what, 0, 1)) {
            return -1;
        }
        int[][] has = new int[7][7];
        for (int hers = 0; hers < 7; hers++) {
            for (int his = 0; his < 7; his++) {
                has[hers][his] = shows(new int[] {kind, 1, 0, minutes, hers}, his) == 0 ? 10 - hers : 0;
            }
        }
        List<Integer> rests = new ArrayList<>();
        for (int hers = 0; hers < 7; hers++) {
            for (int his = 0; his < 7; his++) {
                int most = 0;
                for (int[] row : has) {
                    most = Math.max(most, row[his]);
                }
                int least = Arrays.stream(has[hers]).min().getAsInt();
                if (has[hers][his] == most && has[hers][his] == least) {
                    rests.add(10 * hers + his);
                }
            }
        }
        return what == 0 ? rests.size() : rests.isEmpty() ? -4 : rests.get(0);
    }

    private static List<int[]> copyOf(List<int[]> rows) {
        List<int[]> copy = new ArrayList<>();
        for (int[] row : rows) {
            copy.add(row.clone());
        }
        return copy;
    }

    int image() {
        oldDoors = copyOf(doors);
        oldKeys = copyOf(keys);
        oldToday = today;
        return 1;
    }

    int restore() {
        if (oldDoors == null) {
            return -4;
        }
        doors = copyOf(oldDoors);
        keys = copyOf(oldKeys);
        today = oldToday;
        return 1;
    }

    private static int laneOf(Object row) {
        return row instanceof byte[] ? 0 : row instanceof short[] ? 1 : 2;
    }

    private static int get(Object row, int i) {
        return ((Number) java.lang.reflect.Array.get(row, i)).intValue();
    }

    private static int size(Object row) {
        return java.lang.reflect.Array.getLength(row);
    }

    private int refusal(int sheet, int lane) {
        if (!in(sheet, 0, 3) || !in(lane, 0, 2)) {
            return -1;
        }
        return sheets[sheet] == null ? -11 : laneOf(sheets[sheet]) == lane ? 0 : -12;
    }

    int asked(int sheet, int lane, int from, int n, int i) {
        if (!in(n, 1, 6) || !in(i, -1, n - 1) || refusal(sheet, lane) == -1) {
            return -1;
        }
        if (refusal(sheet, lane) != 0) {
            return refusal(sheet, lane);
        }
        if (from < 0 || (long) from + 2 * n > size(sheets[sheet])) {
            return -13;
        }
        Set<Integer> taken = new HashSet<>();
        for (int k = 0; k < n; k++) {
            int key = get(sheets[sheet], from + 2 * k);
            if (!in(key, 0, keys.size() - 1) || !taken.add(key) || !in(get(sheets[sheet], from + 2 * k + 1), today, 999)) {
                return -2;
            }
        }
        StringBuilder start = new StringBuilder("012345").delete(n, 6);
        Set<String> rows = new HashSet<>(Set.of(start.toString()));
        for (int changes = 0; changes < 6; changes++) {
            String best = null;
            for (String row : rows) {
                boolean better = best == null || row.compareTo(best) < 0;
                best = better && isClean(sheets[sheet], from, row) ? row : best;
            }
            if (best != null) {
                return i < 0 ? changes : best.charAt(i) - '0';
            }
            rows = changed(rows);
        }
        return -4;
    }

    private boolean isClean(Object sheet, int from, String row) {
        for (int k = 0; k < row.length(); k++) {
            int[] key = keys.get(get(sheet, from + 2 * (row.charAt(k) - '0')));
            if (shows(key, get(sheet, from + 2 * k + 1)) != 0) {
                return false;
            }
        }
        return true;
    }

    private static Set<String> changed(Set<String> rows) {
        Set<String> more = new HashSet<>();
        for (String row : rows) {
            for (int a = 0; a < row.length(); a++) {
                for (int b = a + 1; b < row.length(); b++) {
                    StringBuilder other = new StringBuilder(row);
                    other.setCharAt(a, row.charAt(b));
                    other.setCharAt(b, row.charAt(a));
                    more.add(other.toString());
                }
            }
        }
        return more;
    }

    int film(int sheet, int lane, int from) {
        if (refusal(sheet, lane) != 0) {
            return refusal(sheet, lane);
        }
        if (from < 0 || (long) from + keys.size() > size(sheets[sheet])) {
            return -13;
        }
        for (int key = 0; key < keys.size(); key++) {
            item(sheet, lane, from + key, keys.get(key)[3]);
        }
        return keys.size();
    }

    int sheet(int sheet, int lane, int n) {
        if (!in(sheet, 0, 3) || !in(lane, 0, 2) || n > 24) {
            return -1;
        }
        if (n < 0) {
            return -14;
        }
        sheets[sheet] = lane == 0 ? new byte[n] : lane == 1 ? new short[n] : new int[n];
        return n;
    }

    int drop(int sheet) {
        if (!in(sheet, 0, 3)) {
            return -1;
        }
        if (sheets[sheet] == null) {
            return -11;
        }
        int had = size(sheets[sheet]);
        sheets[sheet] = null;
        return had;
    }

    int item(int sheet, int lane, int i, int v) {
        if (refusal(sheet, lane) != 0) {
            return refusal(sheet, lane);
        }
        if (!in(i, 0, size(sheets[sheet]) - 1)) {
            return -13;
        }
        if (sheets[sheet] instanceof byte[] bytes) {
            bytes[i] = (byte) v;
        } else if (sheets[sheet] instanceof short[] shorts) {
            shorts[i] = (short) v;
        } else {
            ((int[]) sheets[sheet])[i] = v;
        }
        return 1;
    }

    int copy(int from, int i, int to, int j, int n) {
        if (!in(from, 0, 3) || !in(to, 0, 3)) {
            return -1;
        }
        if (sheets[from] == null || sheets[to] == null) {
            return -11;
        }
        if (laneOf(sheets[from]) != laneOf(sheets[to])) {
            return -12;
        }
        if (n < 0 || i < 0 || j < 0 || (long) i + n > size(sheets[from]) || (long) j + n > size(sheets[to])) {
            return -13;
        }
        int[] taken = new int[n];
        for (int k = 0; k < n; k++) {
            taken[k] = get(sheets[from], i + k);
        }
        for (int k = 0; k < n; k++) {
            item(to, laneOf(sheets[to]), j + k, taken[k]);
        }
        return n;
    }
}
