/** Promises 1 to 9: a new object, doors, keys, texts, counts. */
public final class DoorsKeysTest {
    private static final int BAD = -1, FULL = -3;
    private static final Due DUE = new Due("DoorsKeysTest");

    public static void main(String[] args) {
        promise1();
        promise2();
        promise3();
        promise4();
        promise5();
        promise6();
        promise7();
        promise7Faults();
        promise7Bounds();
        promise8();
        promise8Ends();
        promise8Faults();
        promise8Bounds();
        promise9();
        promise9Full();
        DUE.end();
    }

    private static void promise1() {
        TellKeys x = new TellKeys();
        for (int what = 0; what <= 5; what++) {
            DUE.is("new: count(" + what + ")", 0, x.count(what));
        }
        DUE.is("new: reach(0)", 1 | 1 << 10, x.reach(0));
        DUE.is("new: restore()", -4, x.restore());
        DUE.is("new: key(0, 1) is the first", 0, x.key(0, 1));
        DUE.is("new: door(0, 1, 8) is the first", 0, x.door(0, 1, 8));
        DUE.is("new: the tape is empty", 1, x.type('n', 1));
        for (int sheet = 0; sheet < 4; sheet++) {
            DUE.is("new: drop(" + sheet + ")", -11, x.drop(sheet));
        }
    }

    private static void promise2() {
        TellKeys x = new TellKeys();
        int[][] bad = {{-1, 1, 8}, {11, 1, 8}, {1, -1, 8}, {1, 11, 8}, {3, 3, 8}, {0, 0, 0}, {10, 10, 8}, {0, 10, 8},
            {10, 0, 8}, {1, 2, -1}, {1, 2, 9}, {Integer.MIN_VALUE, 1, 0}, {1, Integer.MAX_VALUE, 0}};
        for (int[] of : bad) {
            DUE.is("door " + of[0] + " " + of[1] + " " + of[2], BAD, x.door(of[0], of[1], of[2]));
        }
        DUE.is("nothing came of them", 0, x.count(0));
        int[][] good = {{0, 1, 8}, {1, 0, 0}, {0, 9, 7}, {1, 10, 3}, {10, 9, 8}, {0, 1, 8}};
        for (int i = 0; i < good.length; i++) {
            DUE.is("door " + i, i, x.door(good[i][0], good[i][1], good[i][2]));
        }
        for (int i = good.length; i < 16; i++) {
            DUE.is("door " + i, i, x.door(2, 3, 8));
        }
        DUE.is("a door too many", FULL, x.door(2, 3, 8));
        DUE.is("bad comes ahead of full", BAD, x.door(3, 3, 8));
        DUE.is("16 doors", 16, x.count(0));
    }

    private static void promise3() {
        TellKeys x = new TellKeys();
        int[][] bad = {{-1, 0}, {4, 0}, {0, -1}, {0, 2}, {Integer.MAX_VALUE, 1}, {1, Integer.MIN_VALUE}};
        for (int[] of : bad) {
            DUE.is("key " + of[0] + " " + of[1], BAD, x.key(of[0], of[1]));
        }
        DUE.is("nothing came of them", 0, x.count(1));
        for (int i = 0; i < 8; i++) {
            DUE.is("key " + i, i, x.key(i % 4, i / 4));
        }
        DUE.is("a key too many", FULL, x.key(0, 0));
        DUE.is("bad comes ahead of full", BAD, x.key(4, 0));
    }

    private static void promise4() {
        TellKeys x = new TellKeys();
        DUE.is("told of no key", BAD, x.told(0, 0));
        x.key(2, 1);
        x.key(3, 0);
        isTold(x, 0, 2, 1, 4, 0, 0);
        isTold(x, 1, 3, 0, 4, 0, 0);
        x.change(0, 3);
        x.door(0, 1, 0);
        x.next();
        x.next();
        x.visit(3, 1, 17);
        isTold(x, 0, 2, 1, 3, 17, 2);
        isTold(x, 1, 3, 0, 4, 0, 0);
        int[][] bad = {{-1, 0}, {2, 0}, {0, -1}, {0, 5}, {8, 0}, {Integer.MIN_VALUE, 0}, {0, Integer.MAX_VALUE}};
        for (int[] of : bad) {
            DUE.is("told " + of[0] + " " + of[1], BAD, x.told(of[0], of[1]));
        }
    }

    private static void isTold(TellKeys x, int key, int... all) {
        for (int what = 0; what < 5; what++) {
            DUE.is("told(" + key + ", " + what + ")", all[what], x.told(key, what));
        }
    }

    private static void promise5() {
        TellKeys x = new TellKeys();
        DUE.is("of no door", BAD, x.of(0, 0));
        DUE.is("THE STEP is no door to ask of", BAD, x.of(16, 0));
        x.door(7, 2, 5);
        x.door(2, 10, 8);
        isDoor(x, 0, 7, 2, 5);
        isDoor(x, 1, 2, 10, 8);
        int[][] bad = {{-1, 0}, {2, 0}, {16, 0}, {0, -1}, {0, 3}, {Integer.MAX_VALUE, 0}, {0, Integer.MIN_VALUE}};
        for (int[] of : bad) {
            DUE.is("of " + of[0] + " " + of[1], BAD, x.of(of[0], of[1]));
        }
    }

    private static void isDoor(TellKeys x, int door, int one, int other, int lock) {
        DUE.is("of(" + door + ", 0)", one, x.of(door, 0));
        DUE.is("of(" + door + ", 1)", other, x.of(door, 1));
        DUE.is("of(" + door + ", 2)", lock, x.of(door, 2));
    }

    private static void promise6() {
        TellKeys x = new TellKeys();
        DUE.is("no byte", BAD, x.type(Due.word("n"), 0));
        DUE.is("too many", BAD, x.type(Due.word("n;n;n;n;"), 9));
        DUE.is("less than none", BAD, x.type(Due.word("n"), -1));
        DUE.is("n far off", BAD, x.type(Due.word("n"), Integer.MIN_VALUE));
        DUE.is("a byte 31", BAD, x.type(0x6e1fL, 2));
        DUE.is("a byte 127", BAD, x.type(0x7f6eL, 2));
        DUE.is("a byte 255", BAD, x.type(-1L, 8));
        DUE.is("a byte 0", BAD, x.type(Due.word("n"), 2));
        DUE.is("higher bytes do not count", 1, x.type(0x7f00ff30L, 1));
        DUE.is("bytes 32 and 126", 3, x.type(0x207eL, 2));
        DUE.is("it reads \"0 ~\"", -22, x.house());
        DUE.is("the highest first", 3, x.type(Due.word("0-1"), 3));
        DUE.is("behind it", 5, x.type(Due.word("l7"), 2));
        DUE.is("a house", 1, x.house());
        isDoor(x, 0, 0, 1, 7);
        for (int i = 1; i <= 20; i++) {
            DUE.is("8 more", 8 * i, x.type(Due.word("n;n;n;n;"), 8));
        }
        DUE.is("one too many", FULL, x.type(Due.word("n"), 1));
        DUE.is("bad comes ahead of full", BAD, x.type(0, 1));
        DUE.is("80 acts and a ; behind them", -180, x.week());
        DUE.is("it was empty", 7, x.type(Due.word("n;n;n;n"), 7));
        for (int i = 1; i <= 19; i++) {
            x.type(Due.word(";n;n;n;n"), 8);
        }
        DUE.is("159 and 2", FULL, x.type(Due.word(";n"), 2));
        DUE.is("159 and 1", 160, x.type(Due.word(" "), 1));
        DUE.is("80 acts", 80, x.week());
        DUE.is("80 days", 80, x.count(3));
    }

    private static void promise7() {
        TellKeys x = new TellKeys();
        x.door(4, 5, 1);
        x.key(0, 1);
        DUE.is("a house", 4, Due.house(x, "g-9,9-8l7, 8 - 1 ,0-3l0"));
        isDoor(x, 0, 10, 9, 8);
        isDoor(x, 1, 9, 8, 7);
        isDoor(x, 2, 8, 1, 8);
        isDoor(x, 3, 0, 3, 0);
        DUE.is("in place of all", 4, x.count(0));
        DUE.is("keys stay", 1, x.count(1));
        DUE.is("the tape is empty", -20, x.house());
        DUE.is("a fault", -25, Due.house(x, "1-2, "));
        DUE.is("the tape is empty behind a fault", -20, x.house());
        DUE.is("those told stay", 4, x.count(0));
        isDoor(x, 0, 10, 9, 8);
        isDoor(x, 3, 0, 3, 0);
        DUE.is("blanks anywhere", 2, Due.house(x, "  1  -  g  l  3  ,  g  -  2  "));
        isDoor(x, 0, 1, 10, 3);
        isDoor(x, 1, 10, 2, 8);
        DUE.is("doors go on behind", 2, x.door(1, 2, 8));
    }

    private static void promise7Faults() {
        String[] texts = {"", "   ", "x", " x", "-", "l", "G", "0", "0 ", "01", "0 1", "0-", "0- ", "0-x", "0-0", "g-g",
            "0-g", "g-0", "0- g", "0-10", "0-1 0", "0-1;", "0-1l", "0-1l ", "0-1l8", "0-1l9", "0-1lg", "0-1l12",
            "0-1l1 2", "0-1l1l1", "0-1ll1", "0-1,", "0-1, ", "0-1,,1-2", "0-1,1-1", "0-1-2", "1-g,g-0", ",0-1", "0-1:"};
        int[] places = {0, 3, 0, 1, 0, 0, 0, 1, 2, 1, 2, 2, 3, 2, 2, 2,
            2, 2, 3, 3, 4, 3, 4, 5, 4, 4, 4, 5,
            6, 5, 4, 4, 5, 4, 6, 3, 6, 0, 3};
        TellKeys x = new TellKeys();
        x.door(4, 5, 1);
        for (int i = 0; i < texts.length; i++) {
            DUE.is("house \"" + texts[i] + "\"", -20 - places[i], Due.house(x, texts[i]));
        }
        isDoor(x, 0, 4, 5, 1);
        DUE.is("the door told stays", 1, x.count(0));
    }

    private static void promise7Bounds() {
        TellKeys x = new TellKeys();
        StringBuilder text = new StringBuilder("1-2l3");
        for (int i = 2; i <= 16; i++) {
            text.append(",1-2l").append(i % 8);
        }
        DUE.is("16 doors with locks", 16, Due.house(x, text.toString()));
        DUE.is("the 16th has its lock", 0, x.of(15, 2));
        DUE.is("no more", FULL, x.door(1, 2, 8));
        DUE.is("16 doors and blanks to the end", 16, Due.house(x, text + " ".repeat(160 - text.length())));
        DUE.is("a , behind the 16th", -20 - 95, Due.house(x, text + ","));
        DUE.is("a 17th", -20 - 95, Due.house(x, text + ",1-2"));
        DUE.is("blanks alone", -180, Due.house(x, " ".repeat(160)));
        DUE.is("a door behind 157 blanks", 1, Due.house(x, " ".repeat(157) + "3-4"));
        isDoor(x, 0, 3, 4, 8);
    }

    private static TellKeys aWeekAhead() {
        TellKeys x = new TellKeys();
        Due.house(x, "0-1l0,1-2l1,0-3");
        x.key(0, 1);
        x.key(3, 1);
        x.change(0, 2);
        x.change(1, 2);
        return x;
    }

    private static void promise8() {
        TellKeys x = aWeekAhead();
        DUE.is("a week", 6, Due.week(x, "v2>1:5;n;v2>2:0030;w21;n;c0>3"));
        isTold(x, 0, 0, 1, 3, 30, 1);
        isTold(x, 1, 3, 1, 2, 15, 1);
        DUE.is("two days went by", 2, x.count(3));
        DUE.is("the tape is empty", -20, x.week());
        DUE.is("blanks anywhere", 3, Due.week(x, " v 3 > 1 : 30 ; w 2 1 ; c 1 > 4 "));
        isTold(x, 1, 3, 1, 4, 7, 1);
        DUE.is("to THE HALL", 1, Due.week(x, "v0>0:0"));
        DUE.is("zeros ahead", 1, Due.week(x, "v0>3:" + "0".repeat(150) + "30"));
        DUE.is("one act", 1, Due.week(x, "n"));
        DUE.is("three days went by", 3, x.count(3));
    }

    private static void promise8Ends() {
        TellKeys x = aWeekAhead();
        DUE.is("a way that is shut", 1, Due.week(x, "n;v1>1:3;n"));
        DUE.is("it ended there", 1, x.count(3));
        DUE.is("a key that is not silver", 0, Due.week(x, "w20;n"));
        DUE.is("a key of another one", 0, Due.week(x, "w11;n"));
        DUE.is("a key that is there", 2, Due.week(x, "c0>4;c0>0;c0>0;n"));
        DUE.is("it ended there, too", 1, x.count(3));
        DUE.is("keys from sister 0 and 1 on", 4, Due.week(x, "c0>1;c0>2;c0>0;c0>4"));
        DUE.is("a shut way alone", 0, Due.week(x, "v3>2:1"));
        DUE.is("it is emptied then, too", -20, x.week());
        Due.goTo(x, 997);
        DUE.is("days end", 2, Due.week(x, "n;n;n;c1>0"));
        DUE.is("the last day", 999, x.count(3));
        DUE.is("nothing behind it was done", 2, x.told(1, 2));
    }

    private static void promise8Faults() {
        String[] texts = {"", "  ", "x", "N", ";", "n;", "n; ", "n.", "nn", "n n", "n;;n", "v", "v4", "v>", "v0", "v0:",
            "v01", "v0>", "v0>g", "v0>1", "v0>11", "v0>1>", "v0>1:", "v0>1: ", "v0>1:x", "v0>1:31", "v0>1: 31",
            "v0>1:0031", "v0>1:99999999999999999999", "v0>1:3x", "v0>1:1 0", "v0>1:30n", "v0>1:-1", "w", "w4", "w0",
            "w02", "w09", "w0g", "w0>1", "w001", "c", "c2", "c9", "c0", "c00", "c0:", "c0>", "c0>5", "c0>g", "c0>41",
            "n;n;v0>1:31;n", "n;n;w21;x"};
        int[] places = {0, 2, 0, 0, 0, 2, 3, 1, 1, 2, 2, 1, 1, 1, 2, 2,
            2, 3, 3, 4, 4, 4, 5, 6, 5, 5, 6,
            5, 5, 6, 7, 7, 5, 1, 1, 2,
            2, 2, 2, 2, 3, 1, 1, 1, 2, 2, 2, 3, 3, 3, 4,
            9, 8};
        TellKeys x = aWeekAhead();
        for (int i = 0; i < texts.length; i++) {
            DUE.is("week \"" + texts[i] + "\"", -20 - places[i], Due.week(x, texts[i]));
        }
        DUE.is("nothing is done", 0, x.count(3));
        DUE.is("a fault comes ahead of what can't be", -24, Due.week(x, "w20;x"));
        TellKeys bare = new TellKeys();
        DUE.is("no key to change", -21, Due.week(bare, "c0>1"));
        DUE.is("no key to wash", -22, Due.week(bare, "w00"));
    }

    private static void promise8Bounds() {
        TellKeys x = aWeekAhead();
        DUE.is("80 acts", 80, Due.week(x, "n;".repeat(79) + "n "));
        DUE.is("blanks alone", -180, Due.week(x, " ".repeat(160)));
        DUE.is("a number to the end", 1, Due.week(x, "v0>3:" + "0".repeat(154) + "7"));
        DUE.is("a number to the end, too much", -25, Due.week(x, "v0>3:" + "9".repeat(155)));
        for (int i = 2; i < 8; i++) {
            x.key(3, 0);
        }
        DUE.is("the highest of each", 2, Due.week(x, "c7>3;w37"));
        DUE.is("the last room", 0, Due.week(x, "v3>9:1"));
        x.door(9, 10, 7);
        DUE.is("the last room, with its key", 1, Due.week(x, "v3>9:1"));
        DUE.is("a key above them", -21, Due.week(x, "c8>3"));
    }

    private static void promise9() {
        TellKeys x = new TellKeys();
        Due.house(x, "0-1l0,g-1,2-g,0-2l1,1-2l2");
        for (int kind = 0; kind < 3; kind++) {
            x.key(kind, 1);
            x.change(kind, 0);
        }
        x.key(3, 1);
        DUE.is("doors", 5, x.count(0));
        DUE.is("keys", 4, x.count(1));
        DUE.is("windows", 2, x.count(5));
        x.door(10, 5, 8);
        DUE.is("windows from the other side", 3, x.count(5));
        x.visit(0, 1, 1);
        x.visit(0, 2, 0);
        DUE.is("keys with a stain", 1, x.count(2));
        DUE.is("none shows it today", 0, x.count(4));
        x.visit(0, 2, 4);
        DUE.is("two keys with a stain", 2, x.count(2));
        x.next();
        DUE.is("today", 1, x.count(3));
        DUE.is("the iron one shows it", 1, x.count(4));
        x.next();
        x.next();
        DUE.is("the brass one, too", 2, x.count(4));
        DUE.is("what below", BAD, x.count(-1));
        DUE.is("what above", BAD, x.count(6));
        DUE.is("what far off", BAD, x.count(Integer.MAX_VALUE));
    }

    private static void promise9Full() {
        TellKeys x = new TellKeys();
        StringBuilder text = new StringBuilder();
        for (int i = 0; i < 8; i++) {
            text.append(i == 0 ? "" : ",").append("0-").append(i + 1).append('l').append(i);
        }
        Due.house(x, text + ",1-g,2-g,g-3,4-g,5-g,6-g,7-g,8-g");
        for (int i = 0; i < 8; i++) {
            x.key(0, 1);
            x.change(i, 3);
            x.visit(3, i + 1, i + 1);
        }
        x.next();
        int[] counts = {16, 8, 8, 1, 8, 8};
        for (int what = 0; what < 6; what++) {
            DUE.is("full: count(" + what + ")", counts[what], x.count(what));
        }
        DUE.is("full: fits", 0x1fe, x.fits(2, 8, 1));
        DUE.is("full: seen", 2, x.seen(3, 8, 0));
        DUE.is("full: a film", 8, x.sheet(0, 2, 8) == 8 ? x.film(0, 2, 0) : 0);
    }
}
