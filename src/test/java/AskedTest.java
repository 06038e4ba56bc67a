/** Promises 18 to 22: what can have been, when to look, images, keys changed among sisters who are asked. */
public final class AskedTest {
    private static final int BAD = -1, NOT = -2, NONE = -4, NULL = -11, CAST = -12, INDEX = -13;
    private static final int IRON = 0, BRASS = 1, GLASS = 2, SILVER = 3;
    private static final Due DUE = new Due("AskedTest");

    public static void main(String[] args) {
        promise18();
        promise19();
        promise20And21();
        promise22();
        promise22Rows();
        promise22Lanes();
        promise22Refusals();
        DUE.end();
    }

    private static void promise18() {
        TellKeys x = new TellKeys();
        int[][] dues = {
            // on day 0 nothing can be shown: no stain, or any of 30
            {IRON, 0, 0, 31}, {BRASS, 0, 0, 31}, {GLASS, 0, 0, 31}, {SILVER, 0, 0, 31}, {IRON, 1, 0, 0},
            // 1 of iron on day 1: got on day 0, 1 to 30 minutes
            {IRON, 1, 1, 30}, {IRON, 0, 1, 31}, {IRON, 2, 1, 0},
            // 1 of iron on day 3: 2 days old 30, older by one day each 1 (of 1 minute)
            {IRON, 1, 3, 32}, {IRON, 2, 3, 29 + 1}, {IRON, 3, 3, 28},
            // brass keeps silent for three days of its own
            {BRASS, 0, 1, 61}, {BRASS, 0, 2, 91}, {BRASS, 0, 3, 91}, {BRASS, 1, 2, 0}, {BRASS, 1, 3, 30},
            {BRASS, 1, 4, 31}, {SILVER, 1, 4, 31}, {SILVER, 0, 99, 91},
            // glass: 2 on the day behind, odd numbers by their minutes alone
            {GLASS, 1, 1, 1}, {GLASS, 2, 1, 29}, {GLASS, 3, 1, 0}, {GLASS, 3, 2, 1}, {GLASS, 4, 2, 27},
            {GLASS, 2, 2, 30}, {GLASS, 0, 5, 31},
            // 30 on day 99: iron of 30 minutes, 30 days old at least
            {IRON, 30, 99, 70}, {IRON, 30, 29, 0}, {IRON, 30, 30, 1}, {GLASS, 30, 99, 85}, {BRASS, 30, 99, 68},
            {IRON, 0, 99, 31}};
        for (int[] of : dues) {
            DUE.is("been(" + of[0] + ", " + of[1] + ", " + of[2] + ")", of[3], x.been(of[0], of[1], of[2]));
        }
        int[][] bad = {{-1, 0, 0}, {4, 0, 0}, {0, -1, 0}, {0, 31, 0}, {0, 0, -1}, {0, 0, 100},
            {Integer.MAX_VALUE, 0, 0}, {0, Integer.MIN_VALUE, 0}, {0, 0, Integer.MAX_VALUE}};
        for (int[] of : bad) {
            DUE.is("been " + of[0] + " " + of[1] + " " + of[2], BAD, x.been(of[0], of[1], of[2]));
        }
    }

    private static void promise19() {
        TellKeys x = new TellKeys();
        // iron and glass show it the day behind: she goes on the last day, he looks then
        // brass and silver show it three days behind: she goes on day 4, he looks on day 6
        int[] first = {66, 46, 66, 46};
        for (int kind = 0; kind < 4; kind++) {
            for (int minutes = 1; minutes <= 30; minutes++) {
                DUE.is("look(" + kind + ", " + minutes + ", 0)", 1, x.look(kind, minutes, 0));
                DUE.is("look(" + kind + ", " + minutes + ", 1)", first[kind], x.look(kind, minutes, 1));
            }
            DUE.is("no stay: she goes at once, he may look when he will", 7, x.look(kind, 0, 0));
            DUE.is("no stay: the first", 0, x.look(kind, 0, 1));
        }
        int[][] bad = {{-1, 1, 0}, {4, 1, 0}, {0, -1, 0}, {0, 31, 0}, {0, 1, -1}, {0, 1, 2},
            {Integer.MIN_VALUE, 1, 0}, {0, Integer.MAX_VALUE, 0}, {0, 1, Integer.MIN_VALUE}};
        for (int[] of : bad) {
            DUE.is("look " + of[0] + " " + of[1] + " " + of[2], BAD, x.look(of[0], of[1], of[2]));
        }
    }

    private static void promise20And21() {
        TellKeys x = new TellKeys();
        DUE.is("no image", NONE, x.restore());
        Due.house(x, "0-1l0,1-g");
        x.key(SILVER, 1);
        x.key(IRON, 0);
        x.change(0, 2);
        x.next();
        x.visit(2, 1, 9);
        x.next();
        x.sheet(0, 2, 3);
        x.type(Due.word("n;"), 2);
        DUE.is("image", 1, x.image());
        Due.type(x, "n");
        Due.house(x, "");
        Due.house(x, "5-6l4,6-7,7-8");
        x.key(GLASS, 1);
        x.wash(2, 0);
        x.next();
        x.door(0, 2, 0);
        x.visit(2, 2, 30);
        DUE.is("a stain of another day", 3, x.told(0, 4));
        x.change(0, 3);
        x.change(1, 1);
        x.sheet(0, 1, 5);
        x.type(Due.word("n;n"), 3);
        DUE.is("restore", 1, x.restore());
        isAsImaged(x);
        DUE.is("the tape is as it is", 5, x.type(Due.word(";n"), 2));
        DUE.is("three acts", 3, x.week());
        DUE.is("days go on from then", 5, x.count(3));
        DUE.is("the sheet is as it is", 5, x.drop(0));
        DUE.is("again", 1, x.restore());
        isAsImaged(x);
        DUE.is("a day behind", 3, x.next());
        DUE.is("a new image", 1, x.image());
        x.next();
        x.restore();
        DUE.is("of the new image", 3, x.count(3));
        DUE.is("a key more", 2, x.key(0, 0));
        DUE.is("a new key is clean", 0, x.told(2, 3));
    }

    private static void isAsImaged(TellKeys x) {
        int[] counts = {2, 2, 1, 2, 0, 1};
        for (int what = 0; what < 6; what++) {
            DUE.is("count(" + what + ") as imaged", counts[what], x.count(what));
        }
        int[] doors = {0, 1, 0, 1, 10, 8};
        for (int i = 0; i < 6; i++) {
            DUE.is("of(" + i / 3 + ", " + i % 3 + ") as imaged", doors[i], x.of(i / 3, i % 3));
        }
        int[] keys = {SILVER, 1, 2, 9, 1, IRON, 0, 4, 0, 0};
        for (int i = 0; i < 10; i++) {
            DUE.is("told(" + i / 5 + ", " + i % 5 + ") as imaged", keys[i], x.told(i / 5, i % 5));
        }
    }

    /** Keys 0 iron, 1 brass, 2 glass with a stain of 4 of day 0; keys 3, 4, 5 are clean. */
    private static TellKeys stained() {
        TellKeys x = new TellKeys();
        Due.house(x, "0-1l0,1-2l1,2-3l2");
        int[] kinds = {IRON, BRASS, GLASS, SILVER, IRON, GLASS};
        for (int i = 0; i < 6; i++) {
            x.key(kinds[i], 1);
            x.change(i, 0);
        }
        x.visit(0, 3, 4);
        x.sheet(0, 2, 24);
        return x;
    }

    private static void rowIs(TellKeys x, int from, int changes, int... row) {
        DUE.is("changes", changes, x.asked(0, 2, from, row.length, -1));
        for (int i = 0; i < row.length; i++) {
            DUE.is("whose key the " + i + "-th has", row[i], x.asked(0, 2, from, row.length, i));
        }
    }

    private static void promise22() {
        TellKeys x = stained();
        Due.fill(x, 0, 2, 0, 0);
        rowIs(x, 0, 0, 0);
        Due.fill(x, 0, 2, 0, 1);
        DUE.is("one with a stain", NONE, x.asked(0, 2, 0, 1, -1));
        DUE.is("one with a stain, whose", NONE, x.asked(0, 2, 0, 1, 0));
        Due.fill(x, 0, 2, 0, 1, 3, 1);
        DUE.is("two, a stained one stays", NONE, x.asked(0, 2, 0, 2, -1));
        Due.fill(x, 0, 2, 0, 1, 3, 0);
        rowIs(x, 0, 1, 1, 0);
        Due.fill(x, 0, 2, 1, 2, 3, 999);
        rowIs(x, 0, 0, 0, 1);
        Due.fill(x, 0, 2, 3, 999, 1, 3);
        DUE.is("both want the same", NONE, x.asked(0, 2, 0, 2, -1));
        Due.fill(x, 0, 2, 1, 999, 3, 2);
        rowIs(x, 0, 1, 1, 0);
        DUE.is("from an odd place on", NOT, x.asked(0, 2, 1, 1, -1));
        x.item(0, 2, 21, 777);
        Due.fill(x, 0, 2, 777, 5, 999, 3, 2);
        DUE.is("not from 0 on", NOT, x.asked(0, 2, 0, 1, 0));
        rowIs(x, 1, 0, 0);
    }

    private static void promise22Rows() {
        TellKeys x = stained();
        // who can have what: 0 the brass or a clean one, 1 the clean one alone, 2 any
        Due.fill(x, 0, 2, 0, 1, 3, 5, 1, 0);
        rowIs(x, 0, 1, 2, 1, 0);
        // a circle of three: two changes
        Due.fill(x, 0, 2, 0, 2, 1, 5, 3, 0);
        rowIs(x, 0, 2, 1, 2, 0);
        // two ways of one change each: the first row
        Due.fill(x, 0, 2, 0, 1, 3, 0, 4, 0);
        rowIs(x, 0, 1, 1, 0, 2);
        // the first row would take two changes
        Due.fill(x, 0, 2, 0, 1, 3, 1, 4, 0);
        rowIs(x, 0, 1, 2, 1, 0);
        // two pairs
        Due.fill(x, 0, 2, 0, 999, 3, 0, 2, 999, 4, 0);
        rowIs(x, 0, 2, 1, 0, 3, 2);
        // all clean: nobody changes
        Due.fill(x, 0, 2, 0, 0, 1, 2, 2, 0, 3, 999, 4, 999, 5, 999);
        rowIs(x, 0, 0, 0, 1, 2, 3, 4, 5);
        // three stained keys to three who are asked today
        Due.fill(x, 0, 2, 0, 9, 1, 9, 2, 9, 3, 0, 4, 0, 5, 0);
        rowIs(x, 0, 3, 3, 4, 5, 0, 1, 2);
        // a circle of six: 0 and 2 are of use today alone, 1 on day 2 at most
        Due.fill(x, 0, 2, 0, 2, 1, 9, 3, 0, 2, 9, 4, 0, 5, 9);
        rowIs(x, 0, 3, 1, 2, 0, 4, 3, 5);
        x.next();
        x.next();
        x.next();
        Due.fill(x, 0, 2, 3, 3, 4, 4);
        rowIs(x, 0, 0, 0, 1);
        Due.fill(x, 0, 2, 1, 3, 4, 3);
        DUE.is("today all show it", NONE, x.asked(0, 2, 0, 2, -1));
        DUE.is("nothing was changed", 0, x.told(3, 2));
    }

    private static void promise22Lanes() {
        TellKeys x = stained();
        for (int lane = 0; lane < 3; lane++) {
            x.sheet(1, lane, 4);
            Due.fill(x, 1, lane, 0, 100, 3, 0);
            DUE.is("lane " + lane, 1, x.asked(1, lane, 0, 2, -1));
            Due.fill(x, 1, lane, 256, 100, 65536 + 3, 0);
            int[] due = {1, NOT, NOT};
            DUE.is("lane " + lane + ", the lowest bits", due[lane], x.asked(1, lane, 0, 2, -1));
            Due.fill(x, 1, lane, 0, 128, 3, 0);
            int[] signed = {NOT, 1, 1};
            DUE.is("lane " + lane + ", with its sign", signed[lane], x.asked(1, lane, 0, 2, -1));
            Due.fill(x, 1, lane, 0, 65536 + 900, 3, 65536);
            int[] wide = {NOT, 1, NOT};
            DUE.is("lane " + lane + ", wide", wide[lane], x.asked(1, lane, 0, 2, -1));
        }
    }

    private static void promise22Refusals() {
        TellKeys x = stained();
        int max = Integer.MAX_VALUE;
        int min = Integer.MIN_VALUE;
        int[][] bad = {{-1, 2, 0, 1, 0}, {4, 2, 0, 1, 0}, {0, -1, 0, 1, 0}, {0, 3, 0, 1, 0}, {0, 2, 0, 0, -1},
            {0, 2, 0, 7, 0}, {0, 2, 0, 1, -2}, {0, 2, 0, 1, 1}, {0, 2, 0, 6, 6}, {0, 2, 0, max, 0}, {0, 2, 0, min, 0},
            {0, 2, 0, 1, max}, {0, 2, 0, 1, min}, {1, 2, 0, 0, -1}, {0, 1, 0, 7, 0}, {0, 2, -1, 1, 1}};
        for (int[] of : bad) {
            DUE.is("asked " + of[0] + " " + of[1] + " " + of[2] + " " + of[3] + " " + of[4], BAD,
                x.asked(of[0], of[1], of[2], of[3], of[4]));
        }
        DUE.is("nothing there", NULL, x.asked(1, 2, -1, 1, 0));
        DUE.is("another lane", CAST, x.asked(0, 1, -1, 1, 0));
        int[] outside = {-1, 23, 24, 25, max, min};
        for (int from : outside) {
            DUE.is("from " + from, INDEX, x.asked(0, 2, from, 1, 0));
        }
        DUE.is("six from 13 on", INDEX, x.asked(0, 2, 13, 6, 0));
        DUE.is("six from 12 on", NOT, x.asked(0, 2, 12, 6, 0));
        int[][] wrong = {{-1, 0, 1, 0}, {6, 0, 1, 0}, {0, -1, 1, 0}, {0, 1000, 1, 0}, {0, 0, 0, 0}, {0, 0, 1, 1000},
            {0, 0, 6, 0}, {max, 0, 1, 0}, {0, min, 1, 0}, {3, 0, 3, 1}};
        for (int[] of : wrong) {
            Due.fill(x, 0, 2, of);
            DUE.is("asked of " + of[0] + " " + of[1] + " " + of[2] + " " + of[3], NOT, x.asked(0, 2, 0, 2, -1));
        }
        x.next();
        Due.fill(x, 0, 2, 3, 0);
        DUE.is("a day that is over", NOT, x.asked(0, 2, 0, 1, -1));
        Due.fill(x, 0, 2, 3, 1);
        DUE.is("today", 0, x.asked(0, 2, 0, 1, -1));
    }
}
