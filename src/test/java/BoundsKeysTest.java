import java.io.IOException;

/** What promises 1 to 9 say of bounds, a sentence a test: a new object, doors, keys, texts, counts. */
public final class BoundsKeysTest {
    private static final int BAD = -1, FULL = -3, NONE = -4, NULL = -11;
    private static final int IRON = 0, BRASS = 1, GLASS = 2, SILVER = 3;
    private static Sentences doc;

    public static void main(String[] args) throws IOException {
        doc = new Sentences("BoundsKeysTest");
        newObject();
        door();
        doorBad();
        doorFull();
        key();
        keyFull();
        told();
        toldBad();
        of();
        type();
        typeBad();
        typeFull();
        houseEmpties();
        houseFault();
        weekEmpties();
        weekFault();
        countDoorsAndKeys();
        countStains();
        countDays();
        countWindows();
        doc.endOf(1, 9);
    }

    private static void newObject() {
        doc.promise(1, "A hall, a garden, no key.");
        TellKeys x = new TellKeys();
        doc.is("a hall and a garden", 1 | 1 << 10, x.reach(0));
        doc.is("from the hall to the garden", 2, x.seen(0, 10, 0));
        doc.is("no room to come to", NONE, x.seen(0, 1, 0));
        doc.is("no key", BAD, x.told(0, 0));
        doc.is("no door", BAD, x.of(0, 0));
        for (int what = 0; what <= 5; what++) {
            doc.is("count " + what, 0, x.count(what));
        }
        doc.is("no image", NONE, x.restore());
        doc.is("no tape, as a house", -20, x.house());
        doc.is("no tape, as a week", -20, x.week());
        for (int sheet = 0; sheet <= 3; sheet++) {
            doc.is("nothing on sheet " + sheet, NULL, x.drop(sheet));
        }
        TellKeys y = new TellKeys();
        y.key(IRON, 1);
        y.image();
        doc.is("one object is not another", BAD, x.told(0, 0));
        doc.is("nor its image", NONE, x.restore());
    }

    private static void door() {
        doc.promise(2, "A DOOR: its number.");
        TellKeys x = new TellKeys();
        for (int door = 0; door < 16; door++) {
            doc.is("the next", door, x.door(9 - door % 9, 0, door % 9));
            doc.is("the one side", 9 - door % 9, x.of(door, 0));
            doc.is("the other one", 0, x.of(door, 1));
            doc.is("the lock", door % 9, x.of(door, 2));
        }
        doc.is("the first is as it was", 9, x.of(0, 0));
    }

    private static void doorBad() {
        doc.promise(2, "BAD: also from one to the same");
        for (int place = 0; place <= 10; place++) {
            doc.is("from " + place + " to itself", BAD, new TellKeys().door(place, place, 8));
        }
        doc.bad(new TellKeys(), "door", new int[] {1, 2, 8}, 0, 10, 0, 10, 0, 8);
        doc.promise(2, "BAD: also from one to the same, between THE HALL and THE GARDEN");
        for (int lock = 0; lock <= 8; lock++) {
            doc.is("one way", BAD, new TellKeys().door(0, 10, lock));
            doc.is("the other way", BAD, new TellKeys().door(10, 0, lock));
        }
        doc.is("from THE HALL elsewhere", 0, new TellKeys().door(0, 9, 8));
        doc.is("from elsewhere to THE GARDEN", 0, new TellKeys().door(1, 10, 8));
    }

    private static void doorFull() {
        doc.promise(2, "FULL: 16.");
        TellKeys x = new TellKeys();
        for (int door = 0; door < 15; door++) {
            x.door(1, 2, 8);
        }
        doc.is("the 16th", 15, x.door(3, 4, 5));
        doc.is("the 17th", FULL, x.door(5, 6, 7));
        doc.is("the 17th once more", FULL, x.door(5, 6, 7));
        doc.is("there are 16", 16, x.count(0));
        doc.is("the last is as it was", 3, x.of(15, 0));
        doc.is("a house of one makes room", 1, Due.house(x, "7-8"));
        doc.is("the second", 1, x.door(5, 6, 7));
        Due.house(x, "1-2" + ",1-2".repeat(14));
        doc.is("the 16th behind a house of 15", 15, x.door(5, 6, 7));
        doc.is("the 17th behind it", FULL, x.door(5, 6, 7));
    }

    private static void key() {
        doc.promise(3, "A KEY: its number.");
        TellKeys x = new TellKeys();
        for (int key = 0; key < 8; key++) {
            doc.is("the next", key, x.key(3 - key % 4, key / 4));
            doc.is("its kind", 3 - key % 4, x.told(key, 0));
            doc.is("whether it tells", key / 4, x.told(key, 1));
        }
        TellKeys y = Due.with("0-1l0", 0, IRON);
        y.next();
        y.visit(0, 1, 5);
        doc.is("one behind a stained one", 1, y.key(GLASS, 0));
        int[] first = {IRON, 1, 0, 5, 1};
        for (int what = 0; what < 5; what++) {
            doc.is("the first is as it was: " + what, first[what], y.told(0, what));
        }
        doc.promise(3, "BAD;");
        doc.bad(new TellKeys(), "key", new int[] {1, 1}, 0, 3, 0, 1);
    }

    private static void keyFull() {
        doc.promise(3, "FULL: 8.");
        TellKeys x = new TellKeys();
        for (int key = 0; key < 7; key++) {
            x.key(IRON, 0);
        }
        doc.is("the 8th", 7, x.key(GLASS, 1));
        doc.is("the 9th", FULL, x.key(BRASS, 0));
        doc.is("the 9th once more", FULL, x.key(BRASS, 0));
        doc.is("there are 8", 8, x.count(1));
        doc.is("the last is as it was", GLASS, x.told(7, 0));
    }

    private static void told() {
        TellKeys x = Due.with("0-1l0,0-2l1", 2, SILVER, BRASS);
        x.key(GLASS, 0);
        Due.goTo(x, 7);
        x.visit(2, 1, 1);
        x.visit(2, 2, 30);
        doc.promise(4, "0 KIND");
        doc.is("silver", SILVER, x.told(0, 0));
        doc.is("glass", GLASS, x.told(2, 0));
        doc.promise(4, "1 whether it TELLS (1, 0)");
        doc.is("it does", 1, x.told(0, 1));
        doc.is("it does not", 0, x.told(2, 1));
        doc.promise(4, "2 the SISTER who has it (4: THE HOOK)");
        doc.is("sister 2", 2, x.told(0, 2));
        doc.is("the hook", 4, x.told(2, 2));
        doc.promise(4, "3 MINUTES of its STAIN");
        doc.is("the least", 1, x.told(0, 3));
        doc.is("the most", 30, x.told(1, 3));
        doc.is("none", 0, x.told(2, 3));
        doc.promise(4, "4 the DAY on which it got it (0 without)");
        doc.is("day 7", 7, x.told(1, 4));
        doc.is("without", 0, x.told(2, 4));
        doc.is("the stain of 1 before", 7, x.told(0, 4));
        x.wash(2, 0);
        doc.is("washed away", 0, x.told(0, 4));
        Due.goTo(x, 999);
        x.visit(2, 1, 1);
        doc.is("day 999", 999, x.told(0, 4));
    }

    private static void toldBad() {
        doc.promise(4, "BAD.");
        doc.is("of no key", BAD, new TellKeys().told(0, 0));
        TellKeys x = Due.with("0-1", 0, IRON, IRON, IRON);
        doc.bad(x, "told", new int[] {1, 1}, 0, 2, 0, 4);
        for (int key = 3; key < 8; key++) {
            x.key(IRON, 0);
        }
        doc.bad(x, "told", new int[] {7, 0}, 0, 7, 0, 4);
    }

    private static void of() {
        TellKeys x = new TellKeys();
        x.door(10, 1, 0);
        x.door(9, 0, 8);
        doc.promise(5, "0 the one side, 1 the other one, 2 its LOCK");
        int[] due = {10, 1, 0, 9, 0, 8};
        for (int i = 0; i < 6; i++) {
            doc.is("of(" + i / 3 + ", " + i % 3 + ")", due[i], x.of(i / 3, i % 3));
        }
        doc.promise(5, "BAD.");
        doc.is("of no door", BAD, new TellKeys().of(0, 0));
        doc.bad(x, "of", new int[] {1, 1}, 0, 1, 0, 2);
        Due.house(x, "1-2" + ",1-2".repeat(15));
        doc.bad(x, "of", new int[] {15, 0}, 0, 15, 0, 2);
        Due.house(x, "1-2");
        doc.is("of a door that is there no more", BAD, x.of(1, 0));
    }

    private static void type() {
        doc.promise(6, "The n lowest bytes (1 .. 8) of w");
        TellKeys x = new TellKeys();
        doc.is("the lowest alone, whatever is ahead", 1, x.type(0xff001f7f00fffe6eL, 1));
        doc.is("it was n", 1, x.week());
        doc.is("seven, whatever is ahead", 7, x.type(Due.word("n;n;n;n") | 0x80L << 56, 7));
        doc.is("they were n;n;n;n", 4, x.week());
        doc.is("all eight", 8, x.type(Due.word("n;n;n;n "), 8));
        doc.is("they were n;n;n;n, too", 4, x.week());
        doc.promise(6, "of these the highest first, come behind THE TAPE: how many it has");
        doc.is("two", 2, x.type(Due.word("1-"), 2));
        doc.is("three behind them", 5, x.type(Due.word("2l3"), 3));
        doc.is("it reads 1-2l3", 1, x.house());
        doc.is("from 1", 1, x.of(0, 0));
        doc.is("lock 3", 3, x.of(0, 2));
        doc.is("an empty one again", 3, x.type(Due.word("g-4"), 3));
    }

    private static void typeBad() {
        doc.promise(6, "BAD: n, a byte not 32 .. 126");
        TellKeys x = new TellKeys();
        long blanks = Due.word(" ".repeat(8));
        int[] wrong = {0, 9, -1, 64, Integer.MIN_VALUE, Integer.MAX_VALUE};
        for (int n : wrong) {
            doc.is("n is " + n, BAD, x.type(blanks, n));
        }
        int size = 0;
        int[] signs = {0, 31, 32, 33, 125, 126, 127, 128, 160, 255};
        for (int n = 1; n <= 8; n++) {
            TellKeys y = new TellKeys();
            size = 0;
            for (int sign : signs) {
                boolean may = sign >= 32 && sign <= 126;
                for (int place = 0; place < n; place += Math.max(1, n - 1)) {
                    long word = blanks & ~(255L << 8 * place) | (long) sign << 8 * place;
                    boolean fits = size + n <= 160;
                    size += may && fits ? n : 0;
                    doc.is("byte " + sign + " at " + place + " of " + n, may ? size : BAD, y.type(word, n));
                }
            }
        }
        doc.is("nothing came of what was refused", 1, x.type(' ', 1));
    }

    private static void typeFull() {
        doc.promise(6, "FULL: 160.");
        TellKeys x = new TellKeys();
        long eight = Due.word("n;n;n;n;");
        for (int i = 1; i <= 19; i++) {
            x.type(eight, 8);
        }
        doc.is("159 bytes", 159, x.type(Due.word("n;n;n;n"), 7));
        doc.is("two more", FULL, x.type(Due.word(";n"), 2));
        doc.is("eight more", FULL, x.type(eight, 8));
        doc.is("one more: 160", 160, x.type(' ', 1));
        doc.is("one more", FULL, x.type(' ', 1));
        doc.is("one more, not as told", BAD, x.type(127, 1));
        doc.is("all that came is read", 80, x.week());
        doc.is("there is room again", 8, x.type(eight, 8));
        for (int i = 2; i <= 20; i++) {
            x.type(eight, 8);
        }
        doc.is("160 by eights", FULL, x.type(eight, 8));
    }

    private static void houseEmpties() {
        doc.promise(7, "THE TAPE, which is empty then (whatever is answered), is a HOUSE: how many DOORS");
        TellKeys x = new TellKeys();
        for (int doors = 1; doors <= 16; doors++) {
            doc.is("doors", doors, Due.house(x, "1-2l3" + ",2-3l4".repeat(doors - 1)));
            doc.is("as many are there", doors, x.count(0));
            doc.is("the last has its lock", doors == 1 ? 3 : 4, x.of(doors - 1, 2));
            doc.is("the tape is empty", -20, x.house());
        }
        doc.is("a fault", -25, Due.house(x, "1-2, "));
        doc.is("the tape is empty behind it", 1, x.type('n', 1));
    }

    private static void houseFault() {
        doc.promise(7, "A FAULT (those told stay)");
        TellKeys x = Due.with("0-1l0,1-2,g-2l1", 0, IRON);
        x.visit(0, 1, 3);
        String before = Due.state(x);
        doc.is("at the start", -20, Due.house(x, "x"));
        doc.is("at the end, behind more doors", -20 - 20, Due.house(x, "3-4,4-5,5-6,6-7,7-8,"));
        doc.is("in the first of them", -24, Due.house(x, "3-4l8,4-5"));
        doc.is("behind the 16th", -20 - 63, Due.house(x, "3-4" + ",3-4".repeat(16)));
        doc.is("nothing told", -20, x.house());
        doc.holds("all is as it was", before.equals(Due.state(x)));
    }

    private static void weekEmpties() {
        doc.promise(8, "THE TAPE, which is empty then (whatever is answered), is a WEEK: how many acts are done");
        TellKeys x = Due.with("0-1l0", 0, SILVER);
        doc.is("all of them", 4, Due.week(x, "v0>1:8;w00;n;c0>4"));
        doc.is("the tape is empty", -20, x.week());
        doc.is("some of them", 1, Due.week(x, "n;w00;n"));
        doc.is("the tape is empty behind them", -20, x.week());
        doc.is("none of them", 0, Due.week(x, "w00;n"));
        doc.is("the tape is empty behind none", -20, x.week());
        doc.is("a fault", -20, Due.week(x, "y"));
        doc.is("the tape is empty behind it", -20, x.week());
        doc.is("a stain of half", 4, x.told(0, 3));
        doc.is("two days went by", 2, x.count(3));
    }

    private static void weekFault() {
        doc.promise(8, "A FAULT (nothing is done)");
        TellKeys x = Due.with("0-1l0", 0, SILVER);
        x.visit(0, 1, 5);
        String before = Due.state(x);
        doc.is("behind each act", -20 - 16, Due.week(x, "v0>1:8;w00;c0>3;;n"));
        doc.is("at the end", -22, Due.week(x, "n;"));
        doc.is("behind what can't be", -24, Due.week(x, "w10;x"));
        doc.is("a number at the last", -27, Due.week(x, "n;v0>1:31"));
        doc.is("nothing told", -20, x.week());
        doc.holds("all is as it was", before.equals(Due.state(x)));
    }

    private static void countDoorsAndKeys() {
        doc.promise(9, "0 DOORS, 1 KEYS");
        TellKeys x = new TellKeys();
        for (int i = 0; i < 16; i++) {
            doc.is("doors", i, x.count(0));
            x.door(1, 2, 8);
            doc.is("keys", Math.min(i, 8), x.count(1));
            x.key(IRON, 0);
        }
        doc.is("all doors", 16, x.count(0));
        doc.is("all keys", 8, x.count(1));
        doc.is("none with a stain", 0, x.count(2));
        doc.is("none that shows it", 0, x.count(4));
        doc.promise(9, "BAD.");
        doc.bad(x, "count", new int[] {0}, 0, 5);
    }

    private static void countStains() {
        doc.promise(9, "2 KEYS with a STAIN");
        TellKeys x = Due.with("0-1l0,1-2l1,2-3l2,3-4l3", 0, IRON, BRASS, GLASS, SILVER);
        for (int room = 1; room <= 4; room++) {
            x.visit(0, room, 1);
            doc.is("with a stain", room, x.count(2));
        }
        x.wash(0, 3);
        doc.is("one washed away", 3, x.count(2));
        doc.promise(9, "4 KEYS that show something TODAY");
        int[] show = {0, 2, 2, 3};
        for (int today = 0; today <= 3; today++) {
            doc.is("on day " + today, show[today], x.count(4));
            x.next();
        }
        doc.is("of all there are", 3, x.count(2));
    }

    private static void countDays() {
        doc.promise(9, "3 TODAY");
        TellKeys x = new TellKeys();
        doc.is("at first", 0, x.count(3));
        x.next();
        doc.is("behind a day", 1, x.count(3));
        Due.goTo(x, 999);
        doc.is("at last", 999, x.count(3));
        x.next();
        doc.is("behind it", 999, x.count(3));
    }

    private static void countWindows() {
        doc.promise(9, "5 WINDOWS");
        TellKeys x = new TellKeys();
        doc.is("THE STEP is none", 0, x.count(5));
        Due.house(x, "1-g,0-1,g-1l0,9-g");
        doc.is("three of four doors", 3, x.count(5));
        Due.house(x, "1-g" + ",g-9".repeat(15));
        doc.is("all of 16", 16, x.count(5));
        Due.house(x, "1-2");
        doc.is("none", 0, x.count(5));
    }
}
