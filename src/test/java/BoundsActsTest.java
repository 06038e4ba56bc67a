import java.io.IOException;

/** What promises 10 to 17 say of bounds, a sentence a test: acts, what is shown, seen, reached, what fits. */
public final class BoundsActsTest {
    private static final int BAD = -1, NOT = -2, FULL = -3, NONE = -4;
    private static final int IRON = 0, BRASS = 1, GLASS = 2, SILVER = 3;
    private static Sentences doc;

    public static void main(String[] args) throws IOException {
        doc = new Sentences("BoundsActsTest");
        visit();
        visitBad();
        visitNot();
        wash();
        washNot();
        change();
        next();
        shown();
        shownBad();
        seen();
        seenNone();
        reach();
        fits();
        fitsBad();
        doc.endOf(10, 17);
    }

    private static void visit() {
        doc.promise(10, "MINUTES, there and back and those she stays");
        TellKeys x = Due.with("g-1,1-2,2-3,3-4,4-5,5-6,6-7,7-8,8-9", 0);
        doc.is("the least", 0, x.visit(0, 0, 0));
        doc.is("a stay in THE HALL", 30, x.visit(0, 0, 30));
        doc.is("there and back alone", 4, x.visit(0, 1, 0));
        doc.is("the most", 50, x.visit(3, 9, 30));
    }

    private static void visitBad() {
        doc.promise(10, "BAD;");
        doc.bad(new TellKeys(), "visit", new int[] {1, 10, 5}, 0, 3, 0, 10, 0, 30);
        doc.bad(Due.with("0-9", 0), "visit", new int[] {3, 9, 5}, 0, 3, 0, 10, 0, 30);
    }

    private static void visitNot() {
        doc.promise(10, "NOT: she can't come there");
        TellKeys x = Due.with("0-1l0,1-2,3-4,0-5l7", 1, IRON, IRON);
        doc.is("her key", 4, x.visit(1, 1, 2));
        doc.is("another one's", NOT, x.visit(0, 1, 2));
        doc.is("behind it", NOT, x.visit(0, 2, 2));
        doc.is("no door of THE HALL's", NOT, x.visit(1, 3, 2));
        doc.is("no door", NOT, x.visit(1, 9, 2));
        doc.is("no such key", NOT, x.visit(1, 5, 2));
        doc.is("not even for no stay", NOT, x.visit(0, 1, 0));
        x.change(0, 4);
        doc.is("from THE HOOK", NOT, x.visit(1, 1, 9));
        doc.is("nothing came of it", 2, x.told(0, 3));
    }

    private static void wash() {
        TellKeys x = Due.with("0-1l0", 3, SILVER, IRON);
        doc.promise(11, "MINUTES of the STAIN that are left (0 without one)");
        doc.is("without one", 0, x.wash(3, 0));
        x.visit(3, 1, 30);
        doc.is("of 30", 15, x.wash(3, 0));
        doc.is("of 15", 7, x.wash(3, 0));
        doc.is("of 7", 3, x.wash(3, 0));
        doc.is("of 3", 1, x.wash(3, 0));
        doc.is("of 1", 0, x.wash(3, 0));
        doc.is("of none", 0, x.wash(3, 0));
        doc.promise(11, "BAD;");
        doc.bad(x, "wash", new int[] {3, 0}, 0, 3, 0, 1);
        doc.is("of no key", BAD, new TellKeys().wash(0, 0));
    }

    private static void washNot() {
        doc.promise(11, "NOT: it is not on her RING, no SILVER one");
        TellKeys x = Due.with("0-1", 1, IRON, BRASS, GLASS, SILVER);
        for (int key = 0; key < 3; key++) {
            doc.is("no silver", NOT, x.wash(1, key));
        }
        for (int sister = 0; sister <= 3; sister++) {
            doc.is("on the ring of 1", sister == 1 ? 0 : NOT, x.wash(sister, 3));
        }
        x.change(3, 4);
        for (int sister = 0; sister <= 3; sister++) {
            doc.is("on THE HOOK", NOT, x.wash(sister, 3));
        }
        x.key(SILVER, 0);
        x.change(4, 2);
        doc.is("one that does not tell", 0, x.wash(2, 4));
    }

    private static void change() {
        TellKeys x = new TellKeys();
        doc.promise(12, "where it was");
        x.key(IRON, 0);
        doc.is("on THE HOOK", 4, x.change(0, 0));
        doc.is("on ring 0", 0, x.change(0, 3));
        doc.is("on ring 3", 3, x.change(0, 4));
        doc.promise(12, "BAD;");
        doc.bad(x, "change", new int[] {0, 2}, 0, 0, 0, 4);
        doc.is("no key", BAD, new TellKeys().change(0, 0));
        doc.promise(12, "NOT: it is there");
        TellKeys y = new TellKeys();
        y.key(IRON, 0);
        doc.is("at first", NOT, y.change(0, 4));
        for (int to = 0; to <= 4; to++) {
            y.change(0, to);
            doc.is("it has come there", NOT, y.change(0, to));
            doc.is("it is there still", to, y.told(0, 2));
        }
    }

    private static void next() {
        TellKeys x = new TellKeys();
        doc.promise(13, "The next DAY: TODAY");
        doc.is("the first", 1, x.next());
        doc.is("the second", 2, x.next());
        Due.goTo(x, 997);
        doc.is("the last but one", 998, x.next());
        doc.is("the last", 999, x.next());
        doc.promise(13, "FULL: it is 999");
        doc.is("no more", FULL, x.next());
        doc.is("no more", FULL, x.next());
        doc.is("it is 999", 999, x.count(3));
        doc.is("nor by a week", 0, Due.week(x, "n"));
        doc.is("it is 999", 999, x.count(3));
    }

    private static void shown() {
        doc.promise(14, "What a KEY shows on a DAY (TODAY .. 999, as all is)");
        TellKeys x = Due.with("0-1l0", 0, GLASS, IRON);
        x.next();
        x.visit(0, 1, 30);
        doc.is("today", 0, x.shown(0, 1));
        doc.is("all but one", 28, x.shown(0, 15));
        doc.is("all", 30, x.shown(0, 16));
        doc.is("the last day", 30, x.shown(0, 999));
        doc.is("without a stain", 0, x.shown(1, 999));
        doc.is("a day ahead", BAD, x.shown(0, 0));
        x.next();
        doc.is("that day is over", BAD, x.shown(0, 1));
        doc.is("today now", 2, x.shown(0, 2));
        Due.goTo(x, 999);
        x.visit(0, 1, 0);
        doc.is("the last day alone", 30, x.shown(0, 999));
        doc.is("the one ahead", BAD, x.shown(0, 998));
        doc.is("one behind", BAD, x.shown(0, 1000));
    }

    private static void shownBad() {
        doc.promise(14, "BAD.");
        doc.is("of no key", BAD, new TellKeys().shown(0, 0));
        TellKeys x = Due.with("0-1", 0, IRON, IRON);
        doc.bad(x, "shown", new int[] {1, 5}, 0, 1, 0, 999);
        Due.goTo(x, 7);
        doc.bad(x, "shown", new int[] {1, 8}, 0, 1, 7, 999);
    }

    private static void seen() {
        TellKeys x = Due.with("g-1,1-2,2-3,3-4,4-5,5-6,6-7,7-8,8-9,0-3l0", 3, IRON);
        doc.promise(15, "SEEN (0), CLEAN (1)");
        doc.is("no minute", 0, x.seen(0, 0, 0));
        doc.is("the most", 20, x.seen(0, 9, 0));
        doc.is("the most, clean", 20, x.seen(3, 9, 1));
        doc.is("with her key", 14, x.seen(3, 9, 0));
        doc.is("not clean with it", 8, x.seen(3, 3, 1));
        doc.promise(15, "BAD;");
        doc.bad(x, "seen", new int[] {0, 1, 0}, 0, 3, 0, 10, 0, 1);
    }

    private static void seenNone() {
        doc.promise(15, "NONE: she can't come there so");
        TellKeys x = Due.with("0-1l0,1-2,3-4", 2, IRON);
        doc.is("with a key that tells", 2, x.seen(2, 1, 0));
        doc.is("not clean", NONE, x.seen(2, 1, 1));
        doc.is("nor what is behind", NONE, x.seen(2, 2, 1));
        doc.is("another sister", NONE, x.seen(1, 1, 0));
        doc.is("a room with a door of no use", NONE, x.seen(2, 3, 0));
        doc.is("a room without a door", NONE, x.seen(2, 9, 0));
        x.change(0, 4);
        doc.is("the key on THE HOOK", NONE, x.seen(2, 1, 0));
    }

    private static void reach() {
        doc.promise(16, "REACH.");
        TellKeys x = Due.with("0-1l0,1-2l1,2-3l2,3-4l3,4-5l4,5-6l5,6-7l6,7-8l7,8-9", 0);
        for (int keys = 0; keys <= 8; keys++) {
            int rooms = (1 << keys + 1) - 1 | 1 << 10 | (keys == 8 ? 1 << 9 : 0);
            doc.is("with " + keys + " keys", rooms, x.reach((1 << keys) - 1));
            x.key(IRON, 1);
        }
        doc.is("without the first of eight", 1 | 1 << 10, x.reach(254));
        doc.promise(16, "BAD: a set of KEYS that there are not");
        doc.bad(x, "reach", new int[] {1}, 0, 255);
        doc.is("one of them is none", BAD, x.reach(1 << 8 | 1));
        doc.is("bits that are no keys'", BAD, x.reach(1 << 31 | 1));
        TellKeys y = new TellKeys();
        for (int keys = 0; keys < 8; keys++) {
            doc.is("all of " + keys, 1 | 1 << 10, y.reach((1 << keys) - 1));
            doc.is("one more than " + keys, BAD, y.reach(1 << keys));
            y.key(IRON, 0);
        }
    }

    private static void fits() {
        doc.promise(17, "FITS, as a set of ROOMS: how many DOORS (0 .. 16), a LOCK (0 .. 8), how far (1 .. 10); -1: not said");
        TellKeys x = new TellKeys();
        doc.is("nothing said", 0x3fe, x.fits(-1, -1, -1));
        doc.is("no door", 0x3fe, x.fits(0, -1, -1));
        doc.is("16 doors", 0, x.fits(16, -1, -1));
        doc.is("1 far", 0, x.fits(-1, -1, 1));
        Due.house(x, "g-1l0,1-2l7,2-3,3-4,4-5,5-6,6-7,7-8,8-9");
        doc.is("lock 0", 1 << 1, x.fits(-1, 0, -1));
        doc.is("lock 7", 1 << 1 | 1 << 2, x.fits(-1, 7, -1));
        doc.is("lock 8, without", 0x3fc, x.fits(-1, 8, -1));
        doc.is("one door, without, 10 far", 1 << 9, x.fits(1, 8, 10));
        doc.is("no door, 10 far", 0, x.fits(0, -1, 10));
        doc.is("lock 7, 3 far", 1 << 2, x.fits(-1, 7, 3));
        doc.is("lock 7, 4 far", 0, x.fits(-1, 7, 4));
        doc.is("two doors, 9 far", 1 << 8, x.fits(2, -1, 9));
        Due.house(x, "1-2" + ",1-2".repeat(15));
        doc.is("16 doors, without", 1 << 1 | 1 << 2, x.fits(16, 8, -1));
        doc.is("16 doors, 1 far", 0, x.fits(16, 8, 1));
    }

    private static void fitsBad() {
        doc.promise(17, "BAD.");
        TellKeys x = Due.with("0-1", 0);
        doc.bad(x, "fits", new int[] {1, 8, 1}, -1, 16, -1, 8, -1, 10);
        doc.bad(x, "fits", new int[] {-1, -1, -1}, -1, 16, -1, 8, -1, 10);
        doc.is("0 far", BAD, x.fits(-1, -1, 0));
        doc.is("0 far, all said", BAD, x.fits(1, 8, 0));
        doc.is("0 doors", 0x3fc, x.fits(0, -1, -1));
        doc.is("lock 0", 0, x.fits(-1, 0, -1));
    }
}
