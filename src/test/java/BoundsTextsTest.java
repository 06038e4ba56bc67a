import java.io.IOException;

/** What the document says of bounds in parts 2 and 3 of its terms, and of sheets: weeks, houses, what is asked. */
public final class BoundsTextsTest {
    private static final int BAD = -1, NONE = -4, NULL = -11, CAST = -12, INDEX = -13;
    private static final int IRON = 0, BRASS = 1, GLASS = 2, SILVER = 3;
    private static Sentences doc;

    public static void main(String[] args) throws IOException {
        doc = new Sentences("BoundsTextsTest");
        seen();
        clean();
        reach();
        weekActs();
        weekKeys();
        weekVisits();
        weekNumbers();
        weekWashes();
        weekChanges();
        weekEnds();
        fitsRooms();
        fitsSaid();
        fitsFar();
        askedFewest();
        askedFirst();
        askedShown();
        been();
        look();
        houseDoors();
        houseSigns();
        houseLocks();
        houseInPlace();
        faultBlanks();
        faultEnd();
        faultNumbers();
        sheets();
        doc.end();
    }

    private static void seen() {
        doc.terms("SEEN: the fewest MINUTES, there and back, by which a SISTER comes to a ROOM (or THE GARDEN)");
        TellKeys x = Due.with("0-1,1-2,2-3,0-3l0,g-9", 0, IRON);
        doc.is("THE HALL", 0, x.seen(0, 0, 0));
        doc.is("THE GARDEN", 2, x.seen(0, 10, 0));
        doc.is("a room by THE GARDEN", 4, x.seen(0, 9, 0));
        doc.is("with her key", 2, x.seen(0, 3, 0));
        doc.is("without it", 6, x.seen(1, 3, 0));
        doc.is("no way", NONE, x.seen(0, 8, 0));
        TellKeys y = Due.with("g-1,1-2,2-3,3-4,4-5,5-6,6-7,7-8,8-9", 0);
        doc.is("by all places there are", 20, y.seen(3, 9, 0));
    }

    private static void clean() {
        doc.terms("CLEAN: with those of them that do not TELL");
        TellKeys x = Due.with("0-1l0,0-2l1,0-1l1,1-2", 0, IRON);
        x.key(IRON, 0);
        doc.is("her key tells", NONE, x.seen(0, 1, 1));
        doc.is("with any", 2, x.seen(0, 1, 0));
        x.change(1, 0);
        doc.is("one that does not", 2, x.seen(0, 1, 1));
        x.change(1, 1);
        doc.is("it is not hers", NONE, x.seen(0, 1, 1));
        doc.is("it is hers", 2, x.seen(1, 1, 1));
        doc.is("open ways", 0, x.seen(0, 0, 1));
        doc.is("open ways", 2, x.seen(0, 10, 1));
    }

    private static void reach() {
        doc.terms("REACH: ROOMS to which a set of KEYS, and nothing else, lets one come "
            + "(THE HALL, bit 0, and THE GARDEN, bit 10, always)");
        TellKeys x = Due.with("0-1l0,1-2l1,g-9l2,8-7", 0, IRON, IRON, IRON);
        int always = 1 | 1 << 10;
        doc.is("nothing", always, x.reach(0));
        doc.is("key 0, on whose ring it may be", always | 1 << 1, x.reach(1));
        doc.is("key 1 alone", always, x.reach(2));
        doc.is("keys 0, 1", always | 1 << 1 | 1 << 2, x.reach(3));
        doc.is("key 2", always | 1 << 9, x.reach(4));
        doc.is("all", always | 1 << 1 | 1 << 2 | 1 << 9, x.reach(7));
        TellKeys y = Due.with("g-1,1-2,2-3,3-4,4-5,5-6,6-7,7-8,8-9", 0);
        doc.is("every room", 0x7ff, y.reach(0));
    }

    private static void weeks(TellKeys x, String[] texts, int... answers) {
        doc.is("as many texts as answers", texts.length, answers.length);
        for (int i = 0; i < texts.length; i++) {
            doc.is("week \"" + texts[i] + "\"", answers[i], Due.week(x, texts[i]));
        }
    }

    private static void houses(TellKeys x, String[] texts, int... answers) {
        doc.is("as many texts as answers", texts.length, answers.length);
        for (int i = 0; i < texts.length; i++) {
            doc.is("house \"" + texts[i] + "\"", answers[i], Due.house(x, texts[i]));
        }
    }

    private static void weekActs() {
        doc.terms("A WEEK is a TEXT of acts, one at least, with ; between");
        TellKeys x = new TellKeys();
        weeks(x, new String[] {"", " ", "n", "n;n", ";", "n;", ";n", "n;;n", "n,n", "nn", "N", "x", "n;x", "0", "~"},
            -20, -21, 1, 2, -20, -22, -20, -22, -21, -21, -20, -20, -22, -20, -20);
        doc.is("of faults nothing came", 3, x.count(3));
        doc.is("as many as the tape has room for", 80, Due.week(x, "n;".repeat(79) + "n"));
    }

    private static void weekKeys() {
        doc.terms("(KEYS in it those that there are)");
        TellKeys x = new TellKeys();
        weeks(x, new String[] {"c0>1", "w00"}, -21, -22);
        for (int key = 0; key < 8; key++) {
            x.key(SILVER, 1);
            doc.is("c, key " + key, 1, Due.week(x, "c" + key + ">2"));
            doc.is("w, key " + key, 1, Due.week(x, "w2" + key));
            doc.is("c, one behind it", -21, Due.week(x, "c" + (key + 1) + ">2"));
            doc.is("w, one behind it", -22, Due.week(x, "w2" + (key + 1)));
        }
        weeks(x, new String[] {"c9>1", "w09", "c/>1", "c:>1", "w0/", "w0:", "cg>1"}, -21, -22, -21, -21, -22, -22, -21);
    }

    private static void weekVisits() {
        doc.terms("v, a digit (SISTER), > and a digit (ROOM), : and a number 0 .. 30 (zeros ahead, too): TO VISIT");
        TellKeys x = Due.with("g-9,0-1l0", 3, IRON);
        weeks(x, new String[] {"v0>0:0", "v3>9:30", "v3>1:4", "v4>0:0", "v9>0:0", "v/>0:0", "v:>0:0", "v>0:0", "v0>g:0",
            "v0>/:0", "v0>::0", "v0>10:0", "v0:1", "v0>1>0", "v0>1", "v00>1:0", "v0>", "v0", "v"},
            1, 1, 1, -21, -21, -21, -21, -21, -23, -23, -23, -24, -22, -24, -24, -22, -23, -22, -21);
        doc.is("she was there", 4, x.told(0, 3));
    }

    private static void weekNumbers() {
        doc.terms(": and a number 0 .. 30 (zeros ahead, too)");
        TellKeys x = Due.with("0-1l0", 0, IRON);
        weeks(x, new String[] {"v0>1:00", "v0>1:001", "v0>1:9", "v0>1:09", "v0>1:10", "v0>1:0030", "v0>1:31",
            "v0>1:0031", "v0>1:40", "v0>1:99", "v0>1:100", "v0>1:300", "v0>1:-1", "v0>1:+1", "v0>1:1.", "v0>1:/",
            "v0>1::"}, 1, 1, 1, 1, 1, 1, -25, -25, -25, -25, -25, -25, -25, -25, -26, -25, -25);
        doc.is("30 at most", 30, x.told(0, 3));
        doc.is("zeros to the end", 1, Due.week(x, "v0>1:" + "0".repeat(155)));
    }

    private static void weekWashes() {
        doc.terms("w and two digits (SISTER, KEY): TO WASH");
        TellKeys x = Due.with("0-1l0", 3, SILVER);
        x.visit(3, 1, 9);
        weeks(x, new String[] {"w30", "w40", "w90", "w/0", "w:0", "w0", "w3", "w", "w3>0", "w300", "w3 0", "wg0"},
            1, -21, -21, -21, -21, -22, -22, -21, -22, -23, 1, -21);
        doc.is("washed twice", 2, x.told(0, 3));
    }

    private static void weekChanges() {
        doc.terms("c, a digit (KEY), > and a digit 0 .. 4: TO CHANGE");
        TellKeys x = new TellKeys();
        x.key(IRON, 1);
        weeks(x, new String[] {"c0>0", "c0>1", "c0>2", "c0>3", "c0>4", "c0>5", "c0>9", "c0>/", "c0>:", "c0>g", "c0>",
            "c0", "c", "c00", "c0:0", "c0>00", "c0>3;c0>4"},
            1, 1, 1, 1, 1, -23, -23, -23, -23, -23, -23, -22, -21, -22, -22, -24, 2);
        doc.is("on THE HOOK", 4, x.told(0, 2));
    }

    private static void weekEnds() {
        doc.terms("Done one behind the other; the first that can't be ends it");
        TellKeys x = Due.with("0-1l0,0-2l1", 0, IRON, SILVER);
        weeks(x, new String[] {"n;v1>1:5;n", "v1>1:5", "n;w00;n", "n;w11;n", "n;c0>0;n", "c0>1;v1>1:5;c0>0",
            "c0>1;v0>1:5;c0>2"}, 1, 0, 1, 1, 1, 3, 1);
        doc.is("four days went by", 4, x.count(3));
        doc.is("one visit was made", 5, x.told(0, 3));
        doc.is("the key stays where it came", 1, x.told(0, 2));
        Due.goTo(x, 998);
        doc.is("the days end", 1, Due.week(x, "n;n;c0>2"));
        doc.is("nothing is done behind it", 1, x.told(0, 2));
        doc.is("they have ended", 0, Due.week(x, "n"));
        doc.is("the last day", 999, x.count(3));
    }

    private static void fitsRooms() {
        doc.terms("FITS: ROOMS 1 .. 9 by what he says");
        TellKeys x = Due.with("0-1,g-9", 0);
        doc.is("neither THE HALL nor THE GARDEN", 0x3fe, x.fits(-1, -1, -1));
        doc.is("rooms with one door", 1 << 1 | 1 << 9, x.fits(1, -1, -1));
        doc.is("rooms with an open one", 1 << 1 | 1 << 9, x.fits(-1, 8, -1));
        doc.is("rooms one away", 1 << 1, x.fits(-1, -1, 1));
    }

    private static void fitsSaid() {
        doc.terms("how many DOORS one has; a LOCK of one of its DOORS (8: without)");
        TellKeys x = Due.with("1-2l7,2-1l0,3-1,g-4l7", 0);
        doc.is("no door", 0x3e0, x.fits(0, -1, -1));
        doc.is("one", 1 << 3 | 1 << 4, x.fits(1, -1, -1));
        doc.is("two", 1 << 2, x.fits(2, -1, -1));
        doc.is("three", 1 << 1, x.fits(3, -1, -1));
        doc.is("lock 7, of no key there", 1 << 1 | 1 << 2 | 1 << 4, x.fits(-1, 7, -1));
        doc.is("lock 0", 1 << 1 | 1 << 2, x.fits(-1, 0, -1));
        doc.is("without, so no room that has no door", 1 << 1 | 1 << 3, x.fits(-1, 8, -1));
        doc.terms("What is not said counts for nothing");
        doc.is("two doors, lock 7", 1 << 2, x.fits(2, 7, -1));
        doc.is("two doors, none open", 0, x.fits(2, 8, -1));
        doc.is("nothing said", 0x3fe, x.fits(-1, -1, -1));
        Due.house(x, "5-6l3");
        doc.is("a lock that is there no more", 0, x.fits(-1, 7, -1));
        doc.is("nor that of the second", 0, x.fits(-1, 0, -1));
        doc.is("a lock that has come", 1 << 5 | 1 << 6, x.fits(-1, 3, -1));
        Due.house(x, "5-6,5-6,5-6,5-6,5-6,5-6,5-6,5-6,5-6,5-6,5-6,5-6,5-6,5-6,5-6,5-6l0");
        doc.is("16 doors", 1 << 5 | 1 << 6, x.fits(16, -1, -1));
        doc.is("15 doors", 0, x.fits(15, -1, -1));
        doc.is("the lock of the 16th", 1 << 5 | 1 << 6, x.fits(-1, 0, -1));
    }

    private static void fitsFar() {
        doc.terms("by how many DOORS (THE STEP, too) one comes there from THE HALL at least, if one could pass all");
        TellKeys x = Due.with("0-1l7,1-2l6,2-3,g-3l5,3-4,7-8", 0);
        doc.is("1 far", 1 << 1, x.fits(-1, -1, 1));
        doc.is("2 far", 1 << 2 | 1 << 3, x.fits(-1, -1, 2));
        doc.is("3 far", 1 << 4, x.fits(-1, -1, 3));
        doc.is("4 far", 0, x.fits(-1, -1, 4));
        doc.is("not to be come to, not said", 0x3fe, x.fits(-1, -1, -1));
        TellKeys y = Due.with("g-1,1-2l1,2-3,3-4,4-5,5-6,6-7,7-8,8-9", 0);
        for (int far = 2; far <= 10; far++) {
            doc.is(far + " far in a row", 1 << far - 1, y.fits(-1, -1, far));
        }
    }

    /** Days a key is clean on, today being 2: iron today alone, brass till 3, the next till 4, glass on all. */
    private static TellKeys threeDays() {
        TellKeys x = Due.with("0-1l0,0-2l1,0-3l2", 0, IRON, BRASS, BRASS, GLASS, GLASS, IRON);
        x.next();
        x.visit(0, 2, 9);
        x.next();
        x.visit(0, 1, 9);
        x.visit(0, 3, 9);
        x.sheet(0, 2, 12);
        return x;
    }

    private static void askedIs(TellKeys x, int[] items, int changes, int... row) {
        Due.fill(x, 0, 2, items);
        doc.is("changes", changes, x.asked(0, 2, 0, row.length, -1));
        for (int i = 0; i < row.length; i++) {
            doc.is("whose key has " + i, row[i], x.asked(0, 2, 0, row.length, i));
        }
    }

    private static void askedFewest() {
        doc.terms("the fewest such CHANGES");
        askedIs(threeDays(), new int[] {0, 2}, 0, 0);
        askedIs(threeDays(), new int[] {0, 2, 1, 3, 2, 4, 3, 999, 4, 5, 5, 5}, 0, 0, 1, 2, 3, 4, 5);
        askedIs(threeDays(), new int[] {0, 999, 3, 2}, 1, 1, 0);
        askedIs(threeDays(), new int[] {0, 3, 1, 999, 3, 2}, 2, 1, 2, 0);
        askedIs(threeDays(), new int[] {0, 3, 1, 4, 2, 999, 3, 2}, 3, 1, 2, 3, 0);
        askedIs(threeDays(), new int[] {0, 999, 1, 999, 2, 999, 3, 2, 4, 2, 5, 2}, 3, 3, 4, 5, 0, 1, 2);
        doc.terms("till each has a KEY of which nothing will be SHOWN on her DAY");
        TellKeys x = threeDays();
        Due.fill(x, 0, 2, 0, 999, 3, 3);
        doc.is("the iron one suits nobody", NONE, x.asked(0, 2, 0, 2, -1));
        Due.fill(x, 0, 2, 0, 3);
        doc.is("one alone can't change", NONE, x.asked(0, 2, 0, 1, -1));
        doc.is("whose key", NONE, x.asked(0, 2, 0, 1, 0));
        Due.fill(x, 0, 2, 1, 4, 2, 4);
        doc.is("the second brass one suits both, the first none", NONE, x.asked(0, 2, 0, 2, -1));
    }

    private static void askedFirst() {
        doc.terms("of like ones the first row of whose KEY each has then");
        askedIs(threeDays(), new int[] {0, 999, 3, 2, 4, 2}, 1, 1, 0, 2);
        askedIs(threeDays(), new int[] {3, 2, 4, 2, 0, 999}, 1, 0, 2, 1);
        askedIs(threeDays(), new int[] {3, 999, 0, 999, 4, 2, 5, 2}, 1, 0, 2, 1, 3);
        askedIs(threeDays(), new int[] {0, 999, 1, 999, 3, 2, 4, 2}, 2, 2, 3, 0, 1);
        askedIs(threeDays(), new int[] {3, 999, 4, 999}, 0, 0, 1);
    }

    private static void askedShown() {
        doc.terms("(as all is)");
        TellKeys x = threeDays();
        askedIs(x, new int[] {0, 999, 3, 2}, 1, 1, 0);
        doc.is("the key of the first is where it was", 0, x.told(0, 2));
        doc.is("its stain is as it was", 9, x.told(0, 3));
        x.image();
        Due.fill(x, 0, 2, 4, 999);
        x.next();
        Due.house(x, "0-1l4");
        x.visit(0, 1, 1);
        doc.is("stained now", NONE, x.asked(0, 2, 0, 1, -1));
        x.restore();
        doc.is("clean as it was", 0, x.asked(0, 2, 0, 1, -1));
    }

    private static void been() {
        doc.terms("no STAIN at all counts as one, else MINUTES 1 .. 30 and any DAY 0 up to that one");
        int[] later = {0, 2, 0, 2};
        for (int day = 0; day <= 99; day++) {
            TellKeys x = new TellKeys();
            for (int much = 0; much <= 30; much++) {
                for (int kind = 0; kind < 4; kind++) {
                    doc.is("been(" + kind + ", " + much + ", " + day + ")",
                        kind == GLASS ? ofGlass(much, day) : ofIron(much, day, later[kind]), x.been(kind, much, day));
                }
            }
        }
    }

    /** Days since that show it if the stain has as many minutes at least, and those behind if it has just as many. */
    private static int ofIron(int much, int day, int later) {
        if (much == 0) {
            return 1 + 30 * Math.min(day + 1, later + 1);
        }
        return day < much + later ? 0 : 31 - much + day - (much + later);
    }

    private static int ofGlass(int much, int day) {
        if (much == 0) {
            return 31;
        }
        int exact = much % 2 == 0 && day >= much / 2 ? 31 - much : 0;
        return exact + Math.max(0, day - much / 2);
    }

    private static void look() {
        doc.terms("on one of DAYS 0 .. 6. She has 10 less her DAY, if nothing is SHOWN on his (or his is ahead of hers), else 0");
        TellKeys x = new TellKeys();
        int[] first = {66, 46, 66, 46};
        for (int kind = 0; kind < 4; kind++) {
            doc.is("the last day that shows nothing, his last: " + kind, first[kind], x.look(kind, 1, 1));
            doc.is("as with the longest stay", first[kind], x.look(kind, 30, 1));
        }
        doc.terms("RESTS: pairs of DAYS by which neither would choose otherwise: how many, the first as 10 times hers and his");
        for (int kind = 0; kind < 4; kind++) {
            doc.is("without a stay she goes at once, he looks on any of seven days: " + kind, 7, x.look(kind, 0, 0));
            doc.is("the first of them", 0, x.look(kind, 0, 1));
            doc.is("one of a minute", 1, x.look(kind, 1, 0));
            doc.is("one of 30", 1, x.look(kind, 30, 0));
        }
        Due.goTo(x, 999);
        doc.is("on the last day, too", 66, x.look(IRON, 1, 1));
    }

    private static void houseDoors() {
        doc.terms("A HOUSE is a TEXT: 1 to 16 DOORS with , between");
        TellKeys x = new TellKeys();
        houses(x, new String[] {"", " ", "1-2", "1-2,3-4", ",", "1-2,", ",1-2", "1-2,,3-4", "1-2;3-4", "1-2 3-4"},
            -20, -21, 1, 2, -20, -24, -20, -24, -23, -24);
        String fifteen = "1-2" + ",1-2".repeat(14);
        doc.is("15", 15, Due.house(x, fifteen));
        doc.is("16", 16, Due.house(x, fifteen + ",1-2l7"));
        doc.is("17", -20 - 65, Due.house(x, fifteen + ",1-2l7,1-2"));
        doc.is("16 and a ,", -20 - 63, Due.house(x, fifteen + ",1-2,"));
        doc.is("16 and blanks", 16, Due.house(x, fifteen + ",1-2l7   "));
    }

    private static void houseSigns() {
        doc.terms("a sign 0 .. 9 or g (THE GARDEN), - and another one (not THE HALL and THE GARDEN)");
        String signs = "0123456789g";
        for (int a = 0; a < 11; a++) {
            TellKeys x = new TellKeys();
            for (int b = 0; b < 11; b++) {
                boolean may = a != b && !(a == 0 && b == 10) && !(a == 10 && b == 0);
                String text = signs.charAt(a) + "-" + signs.charAt(b);
                doc.is("house " + text, may ? 1 : -22, Due.house(x, text));
                doc.is("one side of " + text, a, may ? x.of(0, 0) : a);
                doc.is("the other side of " + text, b, may ? x.of(0, 1) : b);
            }
        }
        houses(new TellKeys(), new String[] {"/-1", ":-1", "f-1", "h-1", "G-1", "1-/", "1-:", "1-f", "1-h", "1-G", "1+2",
            "12", "1", "1-", "10-2", "1-23", "-1-2"},
            -20, -20, -20, -20, -20, -22, -22, -22, -22, -22, -21, -21, -21, -22, -21, -23, -20);
    }

    private static void houseLocks() {
        doc.terms("perhaps l and a digit 0 .. 7 (LOCK)");
        TellKeys x = new TellKeys();
        for (int lock = 0; lock <= 7; lock++) {
            doc.is("lock " + lock, 1, Due.house(x, "1-2l" + lock));
            doc.is("it has it", lock, x.of(0, 2));
        }
        doc.is("without", 1, Due.house(x, "1-2"));
        doc.is("it has none", 8, x.of(0, 2));
        houses(x, new String[] {"1-2l8", "1-2l9", "1-2l/", "1-2l:", "1-2lg", "1-2l", "1-2l,3-4", "1-2L1", "1-2k1",
            "1-2m1", "1-2l11", "1-2l1l1", "1l1-2", "l1"},
            -24, -24, -24, -24, -24, -24, -24, -23, -23, -23, -25, -25, -21, -20);
    }

    private static void houseInPlace() {
        doc.terms("in place of all DOORS");
        TellKeys x = Due.with("0-1l1,0-2,2-3,3-4", 0, IRON);
        x.visit(0, 0, 3);
        doc.is("one in place of four", 1, Due.house(x, "0-9"));
        doc.is("one door", 1, x.count(0));
        doc.is("of door 1", BAD, x.of(1, 0));
        doc.is("its own lock", 8, x.of(0, 2));
        doc.is("no way by the others", 1 | 1 << 9 | 1 << 10, x.reach(1));
        doc.is("the next door", 1, x.door(9, 8, 8));
        doc.is("the keys stay", 1, x.count(1));
        doc.is("two in place of two", 2, Due.house(x, "0-1l0,1-2l0"));
        doc.is("with the key", 4, x.seen(0, 2, 0));
    }

    private static void faultBlanks() {
        doc.terms("(blanks do not count, but end a number)");
        TellKeys x = Due.with("0-1l0", 0, IRON);
        houses(x, new String[] {" 0 - 1 l 0 ", "   0-1", "0-1   ", " x", "0 x", "0 - x", "0 - 1 x", "0-1 l x", "0-1 0",
            "0-1 , x"}, 1, 1, 1, -21, -22, -24, -26, -26, -24, -26);
        weeks(x, new String[] {" n ; n ", " v 0 > 1 : 3 ; n", "w 0 0", "c 0 > 4 ; c 0 > 0", " x", "n x", "n n", "v 4",
            "v0 > 1 : x", "v0>1:3 0", "v0>1:0 3", "v0>1:3 x"}, 2, 2, 0, 2, -21, -22, -22, -22, -29, -27, -27, -27);
    }

    private static void faultEnd() {
        doc.terms("(the end: how many bytes there are)");
        TellKeys x = Due.with("0-1l0", 0, IRON);
        houses(x, new String[] {"", "0", "0-", "0-1l", "0-1,", "  ", "0 ", "0- ", "0-1l  ", "0-1,   "},
            -20, -21, -22, -24, -24, -22, -22, -23, -26, -27);
        weeks(x, new String[] {"", "v", "v0", "v0>", "v0>1", "v0>1:", "w", "w0", "c", "c0", "c0>", "n;", "  ", "v ",
            "v0>1:  ", "n;  "}, -20, -21, -22, -23, -24, -25, -21, -22, -21, -22, -23, -22, -22, -22, -27, -24);
        doc.is("a full tape of blanks, a house", -180, Due.house(x, " ".repeat(160)));
        doc.is("a full tape of blanks, a week", -180, Due.week(x, " ".repeat(160)));
        doc.is("a full tape that wants one more", -180, Due.week(x, "n;".repeat(80)));
    }

    private static void faultNumbers() {
        doc.terms("of a number that may not be its first byte");
        TellKeys x = Due.with("0-1l0", 0, IRON);
        weeks(x, new String[] {"v0>1:31", "v0>1:0031", "v0>1: 31", "v0>1:  0099 ", "v0>1:31x", "n;v0>1:99;n",
            "v0>1:2147483648", "v0>1:4294967301", "v0>1:18446744073709551621", "v0>1:4294967296000000000000"},
            -25, -25, -26, -27, -25, -27, -25, -25, -25, -25);
        doc.is("to the end of the tape", -25, Due.week(x, "v0>1:" + "9".repeat(155)));
        doc.is("nothing was done", 0, x.count(2));
        doc.is("no day went by", 0, x.count(3));
    }

    private static void sheets() {
        doc.begin("Terms", "sheets 0 .. 3: nothing (at first), or a row of a LANE: 0 bytes, 1 shorts, 2 ints, of 0 to 24 items");
        TellKeys x = new TellKeys();
        for (int sheet = 0; sheet <= 3; sheet++) {
            doc.is("nothing at first", NULL, x.drop(sheet));
            for (int lane = 0; lane <= 2; lane++) {
                doc.is("none of a lane", 0, x.sheet(sheet, lane, 0));
                doc.is("no item", INDEX, x.item(sheet, lane, 0, 1));
                doc.is("24 of a lane", 24, x.sheet(sheet, lane, 24));
                doc.is("the last", 1, x.item(sheet, lane, 23, 1));
                doc.is("no more", INDEX, x.item(sheet, lane, 24, 1));
                doc.is("it is of this lane", CAST, x.item(sheet, (lane + 1) % 3, 0, 1));
                doc.is("25 of a lane", BAD, x.sheet(sheet, lane, 25));
            }
            doc.is("no lane 3", BAD, x.sheet(sheet, 3, 1));
            doc.is("no lane -1", BAD, x.sheet(sheet, -1, 1));
        }
        doc.is("no sheet 4", BAD, x.sheet(4, 0, 1));
        doc.is("no sheet -1", BAD, x.sheet(-1, 0, 1));
    }
}
