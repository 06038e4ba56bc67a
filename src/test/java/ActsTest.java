/** Promises 10 to 17: to visit, wash, change keys, the next day; what is shown, seen, reached, what fits. */
public final class ActsTest {
    private static final int BAD = -1, NOT = -2, FULL = -3, NONE = -4;
    private static final int IRON = 0, BRASS = 1, GLASS = 2, SILVER = 3;
    private static final Due DUE = new Due("ActsTest");

    public static void main(String[] args) {
        promise10();
        promise10Ways();
        promise10Garden();
        promise10Stains();
        promise11();
        promise12();
        promise13();
        promise14();
        promise15();
        promise16();
        promise17();
        DUE.end();
    }

    private static void promise10() {
        TellKeys x = Due.with("0-1l0,1-2,2-3l1", 1, IRON);
        x.key(IRON, 1);
        int[][] bad = {{-1, 1, 1}, {4, 1, 1}, {1, -1, 1}, {1, 11, 1}, {1, 1, -1}, {1, 1, 31},
            {Integer.MIN_VALUE, 1, 1}, {1, Integer.MAX_VALUE, 1}, {1, 1, Integer.MAX_VALUE}};
        for (int[] of : bad) {
            DUE.is("visit " + of[0] + " " + of[1] + " " + of[2], BAD, x.visit(of[0], of[1], of[2]));
        }
        DUE.is("there, back and the stay", 9, x.visit(1, 2, 5));
        DUE.is("no stay", 4, x.visit(1, 2, 0));
        DUE.is("the longest stay", 32, x.visit(1, 1, 30));
        DUE.is("to THE HALL", 7, x.visit(0, 0, 7));
        DUE.is("to THE GARDEN", 9, x.visit(3, 10, 7));
        DUE.is("without the key", NOT, x.visit(0, 1, 5));
        DUE.is("with a key on THE HOOK", NOT, x.visit(1, 3, 5));
        DUE.is("no door", NOT, x.visit(1, 9, 5));
        DUE.is("bad comes ahead of not", BAD, x.visit(1, 9, 31));
        x.change(1, 0);
        DUE.is("with a key of another one", NOT, x.visit(1, 3, 5));
        x.change(1, 1);
        DUE.is("with both keys", 11, x.visit(1, 3, 5));
        TellKeys bare = Due.with("0-1l0", 0);
        DUE.is("the lock of a key that is not there", NOT, bare.visit(0, 1, 1));
    }

    private static void stainsAre(TellKeys x, String after, int... minutes) {
        for (int key = 0; key < minutes.length; key++) {
            DUE.is(after + ": stain of " + key, minutes[key], x.told(key, 3));
        }
    }

    private static void promise10Ways() {
        TellKeys x = Due.with("0-1l0,0-1l1,0-2l2,2-1", 0, IRON, IRON, IRON);
        x.visit(0, 1, 3);
        stainsAre(x, "the fewest doors, the first of them", 3, 0, 0);
        x = Due.with("0-2l2,2-1,0-1l1,0-1l0", 0, IRON, IRON, IRON);
        x.visit(0, 1, 3);
        stainsAre(x, "the first by its number, not by its key", 0, 3, 0);
        x = Due.with("2-3l0,1-3l1,0-2l2,0-1l3,0-3l4", 0, IRON, IRON, IRON, IRON, IRON);
        x.change(4, 1);
        x.visit(0, 3, 3);
        stainsAre(x, "the first door from THE HALL counts first", 3, 0, 3, 0, 0);
        x = Due.with("3-4l3,1-3l1,2-3l2,0-2l0,0-1l4", 0, IRON, IRON, IRON, IRON, IRON);
        x.visit(0, 4, 6);
        stainsAre(x, "three doors", 6, 0, 6, 6, 0);
        x = Due.with("0-1,0-1l0", 0, IRON);
        x.visit(0, 1, 3);
        stainsAre(x, "an open door ahead", 0);
        x = Due.with("0-1l0,0-1", 0, IRON);
        x.visit(0, 1, 3);
        stainsAre(x, "an open door behind", 3);
        x.change(0, 1);
        DUE.is("by the open one alone", 5, x.visit(0, 1, 3));
        x = Due.with("0-1l0,1-2l0,2-3l0", 0, IRON);
        DUE.is("a key for three locks", 15, x.visit(0, 3, 9));
        stainsAre(x, "a key for three locks", 9);
    }

    private static void promise10Garden() {
        TellKeys x = Due.with("g-3l0,0-1l1,1-3l2", 2, IRON, IRON, IRON);
        DUE.is("by a window", 4 + 5, x.visit(2, 3, 5));
        stainsAre(x, "THE STEP counts as door 16, behind door 1", 0, 5, 5);
        x.change(1, 4);
        DUE.is("by a window alone", 4 + 6, x.visit(2, 3, 6));
        stainsAre(x, "by a window", 6, 5, 5);
        x = Due.with("0-1,1-2,2-3,3-4,g-4l0", 2, IRON);
        DUE.is("THE STEP is shorter", 4 + 2, x.visit(2, 4, 2));
        stainsAre(x, "THE STEP is shorter", 2);
        x = Due.with("1-g,1-2,2-g", 0);
        DUE.is("THE GARDEN is next to THE HALL", 2, x.visit(0, 10, 0));
        DUE.is("to a room by THE GARDEN", 4, x.visit(0, 2, 0));
    }

    private static void promise10Stains() {
        TellKeys x = Due.with("0-1l0,0-2l1", 0, IRON);
        x.key(IRON, 0);
        x.change(1, 0);
        DUE.is("with a key that does not tell", 10, x.visit(0, 2, 8));
        stainsAre(x, "a key that does not tell", 0, 0);
        x.visit(0, 1, 0);
        stainsAre(x, "no stay, no stain", 0);
        x.next();
        x.visit(0, 1, 4);
        DUE.is("got on day 1", 1, x.told(0, 4));
        x.next();
        x.visit(0, 1, 3);
        x.visit(0, 1, 4);
        stainsAre(x, "as many are not more", 4);
        DUE.is("still of day 1", 1, x.told(0, 4));
        x.visit(0, 1, 5);
        stainsAre(x, "more", 5);
        DUE.is("of day 2 now", 2, x.told(0, 4));
        x.change(0, 1);
        DUE.is("refused", NOT, x.visit(0, 1, 9));
        stainsAre(x, "refused", 5);
    }

    private static void promise11() {
        TellKeys x = Due.with("0-1l0,0-2l1", 3, SILVER, IRON, BRASS, GLASS);
        int[][] bad = {{-1, 0}, {4, 0}, {3, -1}, {3, 4}, {Integer.MIN_VALUE, 0}, {3, Integer.MAX_VALUE}};
        for (int[] of : bad) {
            DUE.is("wash " + of[0] + " " + of[1], BAD, x.wash(of[0], of[1]));
        }
        DUE.is("of another one", NOT, x.wash(2, 0));
        for (int key = 1; key <= 3; key++) {
            DUE.is("no silver " + key, NOT, x.wash(3, key));
        }
        DUE.is("without a stain", 0, x.wash(3, 0));
        x.next();
        x.visit(3, 1, 13);
        x.visit(3, 2, 13);
        x.next();
        int[] left = {6, 3, 1};
        for (int minutes : left) {
            DUE.is("half", minutes, x.wash(3, 0));
            DUE.is("told", minutes, x.told(0, 3));
            DUE.is("the same day", 1, x.told(0, 4));
        }
        DUE.is("nothing left", 0, x.wash(3, 0));
        DUE.is("nothing told", 0, x.told(0, 3));
        DUE.is("no day", 0, x.told(0, 4));
        DUE.is("again", 0, x.wash(3, 0));
        DUE.is("iron keeps its stain", 13, x.told(1, 3));
        x.change(0, 4);
        DUE.is("on THE HOOK", NOT, x.wash(3, 0));
        x.change(0, 0);
        DUE.is("on another ring", 0, x.wash(0, 0));
    }

    private static void promise12() {
        TellKeys x = new TellKeys();
        DUE.is("no key", BAD, x.change(0, 0));
        x.key(IRON, 1);
        int[][] bad = {{-1, 0}, {1, 0}, {0, -1}, {0, 5}, {8, 0}, {Integer.MIN_VALUE, 0}, {0, Integer.MAX_VALUE}};
        for (int[] of : bad) {
            DUE.is("change " + of[0] + " " + of[1], BAD, x.change(of[0], of[1]));
        }
        DUE.is("it is there: THE HOOK", NOT, x.change(0, 4));
        int was = 4;
        int[] ways = {0, 1, 2, 3, 4, 2, 0};
        for (int to : ways) {
            DUE.is("to " + to, was, x.change(0, to));
            DUE.is("it is there: " + to, NOT, x.change(0, to));
            DUE.is("told " + to, to, x.told(0, 2));
            was = to;
        }
    }

    private static void promise13() {
        TellKeys x = new TellKeys();
        for (int day = 1; day <= 80; day++) {
            DUE.is("next", day, x.next());
        }
        Due.type(x, "n;".repeat(79) + "n");
        DUE.is("a week of days", 80, x.week());
        Due.goTo(x, 960);
        DUE.is("960", 960, x.count(3));
        for (int day = 961; day <= 999; day++) {
            DUE.is("next", day, x.next());
        }
        DUE.is("it is 999", FULL, x.next());
        DUE.is("it stays 999", 999, x.count(3));
    }

    private static void promise14() {
        int[] days = {2, 3, 4, 5, 6, 7, 8, 9, 10, 999};
        int[][] shows = {{0, 1, 2, 3, 4, 5, 5, 5, 5, 5}, {0, 0, 0, 1, 2, 3, 4, 5, 5, 5},
            {0, 2, 4, 5, 5, 5, 5, 5, 5, 5}, {0, 0, 0, 1, 2, 3, 4, 5, 5, 5}};
        TellKeys x = Due.with("0-1l0,1-2l1,2-3l2,3-4l3", 0, IRON, BRASS, GLASS, SILVER);
        x.next();
        DUE.is("no stain, nothing shown", 0, x.shown(0, 999));
        x.next();
        x.visit(0, 4, 5);
        for (int kind = 0; kind < 4; kind++) {
            for (int i = 0; i < days.length; i++) {
                DUE.is("shown(" + kind + ", " + days[i] + ")", shows[kind][i], x.shown(kind, days[i]));
            }
        }
        int[][] bad = {{-1, 2}, {4, 2}, {0, 1}, {0, -1}, {0, 1000}, {Integer.MAX_VALUE, 2}, {0, Integer.MIN_VALUE}};
        for (int[] of : bad) {
            DUE.is("shown " + of[0] + " " + of[1], BAD, x.shown(of[0], of[1]));
        }
        x.next();
        DUE.is("a day that is over", BAD, x.shown(0, 2));
        DUE.is("today", 1, x.shown(0, 3));
        x.wash(0, 3);
        DUE.is("washed", 2, x.shown(3, 999));
        DUE.is("washed, by the same day", 1, x.shown(3, 5));
    }

    private static void promise15() {
        TellKeys x = Due.with("0-1l0,1-2l1,2-3,0-3l2,g-5l0", 0, IRON);
        x.key(IRON, 0);
        x.key(IRON, 0);
        x.change(1, 0);
        int[][] bad = {{-1, 1, 0}, {4, 1, 0}, {0, -1, 0}, {0, 11, 0}, {0, 1, -1}, {0, 1, 2}, {Integer.MIN_VALUE, 1, 0},
            {0, Integer.MAX_VALUE, 0}, {0, 1, Integer.MAX_VALUE}};
        for (int[] of : bad) {
            DUE.is("seen " + of[0] + " " + of[1] + " " + of[2], BAD, x.seen(of[0], of[1], of[2]));
        }
        int[] any = {0, 2, 4, 6, NONE, 4, NONE, NONE, NONE, NONE, 2};
        for (int room = 0; room <= 10; room++) {
            DUE.is("seen(0, " + room + ", 0)", any[room], x.seen(0, room, 0));
        }
        int[] clean = {0, NONE, NONE, NONE, NONE, NONE, NONE, NONE, NONE, NONE, 2};
        for (int room = 0; room <= 10; room++) {
            DUE.is("seen(0, " + room + ", 1)", clean[room], x.seen(0, room, 1));
        }
        x.change(2, 0);
        int[] both = {0, 6, 4, 2, NONE, NONE, NONE, NONE, NONE, NONE, 2};
        for (int room = 0; room <= 10; room++) {
            DUE.is("seen(0, " + room + ", 1) with a key more", both[room], x.seen(0, room, 1));
        }
        DUE.is("the shorter way with it", 2, x.seen(0, 3, 0));
        DUE.is("another one has no key", NONE, x.seen(1, 3, 0));
        stainsAre(x, "to see is not to go", 0, 0, 0);
    }

    private static void promise16() {
        TellKeys x = Due.with("0-1l0,1-2l1,2-9,g-8l2,g-7,0-3l7", 0, IRON, IRON, IRON);
        int base = 1 | 1 << 10 | 1 << 7;
        DUE.is("no keys", base, x.reach(0));
        DUE.is("key 0", base | 2, x.reach(1));
        DUE.is("key 1 alone", base, x.reach(2));
        DUE.is("keys 0, 1", base | 2 | 4 | 1 << 9, x.reach(3));
        DUE.is("key 2", base | 1 << 8, x.reach(4));
        DUE.is("all", base | 2 | 4 | 1 << 9 | 1 << 8, x.reach(7));
        DUE.is("a key that is not there", BAD, x.reach(8));
        DUE.is("one of them is not there", BAD, x.reach(9));
        DUE.is("below 0", BAD, x.reach(-1));
        DUE.is("the highest bit", BAD, x.reach(Integer.MIN_VALUE));
        DUE.is("far off", BAD, x.reach(Integer.MAX_VALUE));
        for (int i = 3; i < 8; i++) {
            x.key(IRON, 0);
        }
        DUE.is("all of 8", base | 2 | 4 | 1 << 9 | 1 << 8 | 1 << 3, x.reach(255));
        DUE.is("a 9th", BAD, x.reach(256));
        TellKeys bare = new TellKeys();
        DUE.is("a house without keys and doors", 1 | 1 << 10, bare.reach(0));
        DUE.is("no key", BAD, bare.reach(1));
    }

    private static void promise17() {
        TellKeys x = Due.with("0-1l0,1-2l1,2-3,2-3l1,3-g,5-6l7,6-7,0-4,4-g", 0);
        int all = 1022;
        DUE.is("nothing said", all, x.fits(-1, -1, -1));
        DUE.is("no door", 1 << 8 | 1 << 9, x.fits(0, -1, -1));
        DUE.is("one door", 1 << 5 | 1 << 7, x.fits(1, -1, -1));
        DUE.is("two doors, windows too", 1 << 1 | 1 << 4 | 1 << 6, x.fits(2, -1, -1));
        DUE.is("three doors", 1 << 2 | 1 << 3, x.fits(3, -1, -1));
        DUE.is("16 doors", 0, x.fits(16, -1, -1));
        DUE.is("lock 0", 1 << 1, x.fits(-1, 0, -1));
        DUE.is("lock 1", 1 << 1 | 1 << 2 | 1 << 3, x.fits(-1, 1, -1));
        DUE.is("lock 7, its key not there", 1 << 5 | 1 << 6, x.fits(-1, 7, -1));
        DUE.is("without a lock", 1 << 2 | 1 << 3 | 1 << 4 | 1 << 6 | 1 << 7, x.fits(-1, 8, -1));
        DUE.is("1 far", 1 << 1 | 1 << 4, x.fits(-1, -1, 1));
        DUE.is("2 far, by THE STEP too", 1 << 2 | 1 << 3, x.fits(-1, -1, 2));
        DUE.is("3 far", 0, x.fits(-1, -1, 3));
        DUE.is("10 far", 0, x.fits(-1, -1, 10));
        DUE.is("doors and a lock", 1 << 1, x.fits(2, 1, -1));
        DUE.is("all said", 1 << 4, x.fits(2, 8, 1));
        DUE.is("all said, none fits", 0, x.fits(2, 8, 2));
        int[][] bad = {{-2, -1, -1}, {17, -1, -1}, {-1, -2, -1}, {-1, 9, -1}, {-1, -1, -2}, {-1, -1, 0}, {-1, -1, 11},
            {Integer.MIN_VALUE, 0, 1}, {0, Integer.MAX_VALUE, 1}, {0, 0, Integer.MIN_VALUE}};
        for (int[] of : bad) {
            DUE.is("fits " + of[0] + " " + of[1] + " " + of[2], BAD, x.fits(of[0], of[1], of[2]));
        }
        TellKeys row = Due.with("0-1l0,1-2,2-3,3-4,4-5,5-6,6-7,7-8,8-9", 0);
        DUE.is("9 far", 1 << 9, row.fits(-1, -1, 9));
        TellKeys heap = Due.with("1-2,1-2,1-2,1-2,1-2,1-2,1-2,1-2,1-2,1-2,1-2,1-2,1-2,1-2,1-2,1-2", 0);
        DUE.is("16 doors between two", 2 | 4, heap.fits(16, 8, -1));
    }
}
