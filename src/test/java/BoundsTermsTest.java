import java.io.IOException;

/** What the document says of bounds ahead of its promises: of refusals, and of rooms, keys and acts (part 1). */
public final class BoundsTermsTest {
    private static final int BAD = -1, NOT = -2, FULL = -3, NONE = -4, NULL = -11, CAST = -12, INDEX = -13, SIZE = -14;
    private static final int IRON = 0, BRASS = 1, GLASS = 2, SILVER = 3;
    private static Sentences doc;

    public static void main(String[] args) throws IOException {
        doc = new Sentences("BoundsTermsTest");
        uses();
        severalRefusals();
        machineOrder();
        badNames();
        refusedChangesNothing();
        refusedAsTold();
        refusedSheets();
        sets();
        rooms();
        doorNumbers();
        sides();
        locks();
        windows();
        passed();
        beside();
        keyNumbers();
        hung();
        noStain();
        most();
        kinds();
        days();
        washed();
        ways();
        step();
        stays();
        minutesOnTheWay();
        stained();
        changed();
        doc.end();
    }

    private static void uses() {
        doc.begin("What it is", "at most 512 calls after it has been made");
        TellKeys x = new TellKeys();
        for (int call = 1; call <= 511; call++) {
            doc.is("call " + call, call, x.next());
        }
        doc.is("call 512", 511, x.count(3));
    }

    private static void severalRefusals() {
        doc.terms("Refusals are answers, of several the first that a call names");
        TellKeys x = Due.with("1-2,1-2,1-2,1-2,1-2,1-2,1-2,1-2,1-2,1-2,1-2,1-2,1-2,1-2,1-2,1-2", 0,
            IRON, IRON, IRON, IRON, IRON, IRON, IRON, IRON);
        doc.is("a door too many, not as told", BAD, x.door(1, 2, 9));
        doc.is("a door too many", FULL, x.door(1, 2, 8));
        doc.is("a key too many, not as told", BAD, x.key(4, 0));
        doc.is("a key too many", FULL, x.key(0, 0));
        for (int i = 0; i < 20; i++) {
            x.type(Due.word("n;n;n;n;"), 8);
        }
        doc.is("a byte too many, not as told", BAD, x.type(31, 1));
        doc.is("a byte too many", FULL, x.type(32, 1));
        doc.is("no way there, too long a stay", BAD, x.visit(0, 5, 31));
        doc.is("no way there", NOT, x.visit(0, 5, 30));
        doc.is("no way there, nothing to ask", BAD, x.seen(0, 5, 2));
        doc.is("no way there", NONE, x.seen(0, 5, 1));
        doc.is("no silver, of no sister", BAD, x.wash(4, 0));
        doc.is("no silver", NOT, x.wash(0, 0));
        doc.is("asked: a key twice, and a clean one for none", NOT, askedTwice(x));
    }

    private static int askedTwice(TellKeys x) {
        x.sheet(0, 2, 4);
        Due.fill(x, 0, 2, 1, 0, 1, 0);
        return x.asked(0, 2, 0, 2, -1);
    }

    private static void machineOrder() {
        doc.terms("(NULL, CAST, INDEX, SIZE in this order, behind BAD)");
        TellKeys x = new TellKeys();
        x.sheet(0, 2, 2);
        doc.is("item: no such lane, nothing there", BAD, x.item(1, 3, -1, 0));
        doc.is("item: nothing there, no such item", NULL, x.item(1, 2, -1, 0));
        doc.is("item: another lane, no such item", CAST, x.item(0, 1, -1, 0));
        doc.is("item: no such item", INDEX, x.item(0, 2, -1, 0));
        doc.is("film: no such lane, nothing there", BAD, x.film(1, 3, -1));
        doc.is("film: nothing there, outside", NULL, x.film(1, 2, -1));
        doc.is("film: another lane, outside", CAST, x.film(0, 1, -1));
        doc.is("film: outside", INDEX, x.film(0, 2, -1));
        doc.is("copy: no such sheet, nothing there", BAD, x.copy(1, -1, 4, -1, -1));
        doc.is("copy: nothing there, outside", NULL, x.copy(1, -1, 0, -1, -1));
        doc.is("copy: nothing there, outside", NULL, x.copy(0, -1, 1, -1, -1));
        x.sheet(1, 0, 2);
        doc.is("copy: unlike lanes, outside", CAST, x.copy(0, -1, 1, -1, -1));
        doc.is("copy: outside", INDEX, x.copy(0, -1, 0, -1, -1));
        doc.is("asked: too many, nothing there", BAD, x.asked(2, 2, -1, 7, 0));
        doc.is("asked: nothing there, outside", NULL, x.asked(2, 2, -1, 1, 0));
        doc.is("asked: another lane, outside", CAST, x.asked(0, 1, -1, 1, 0));
        doc.is("asked: outside, no key", INDEX, x.asked(0, 2, 1, 1, 0));
        doc.is("asked: no key", NOT, x.asked(0, 2, 0, 1, 0));
        doc.is("sheet: no such lane, below 0", BAD, x.sheet(0, 3, -1));
        doc.is("sheet: below 0", SIZE, x.sheet(0, 2, -1));
        doc.is("drop: no such sheet", BAD, x.drop(4));
        doc.is("drop: nothing there", NULL, x.drop(3));
    }

    private static void badNames() {
        doc.terms("BAD -1 (a number is not as told, or names nothing)");
        TellKeys x = new TellKeys();
        doc.is("told of no key", BAD, x.told(0, 0));
        doc.is("of no door", BAD, x.of(0, 0));
        doc.is("wash no key", BAD, x.wash(0, 0));
        doc.is("change no key", BAD, x.change(0, 0));
        doc.is("shown of no key", BAD, x.shown(0, 0));
        doc.is("reach with no key", BAD, x.reach(1));
        x.key(SILVER, 1);
        x.door(0, 1, 8);
        doc.is("told of key 1", BAD, x.told(1, 0));
        doc.is("of door 1", BAD, x.of(1, 0));
        doc.is("wash key 1", BAD, x.wash(0, 1));
        doc.is("change key 1", BAD, x.change(1, 0));
        doc.is("shown of key 1", BAD, x.shown(1, 0));
        doc.is("reach with key 1", BAD, x.reach(2));
    }

    private static void refusedChangesNothing() {
        doc.terms("What is refused changes nothing");
        TellKeys x = Due.with("0-1l0,0-2l1,1-3l2", 0, IRON, SILVER);
        x.change(0, 1);
        x.next();
        x.visit(0, 2, 7);
        String before = Due.state(x);
        int[][] refused = {{x.door(3, 3, 8), x.door(0, 10, 8), x.key(4, 1), x.key(0, 2)},
            {x.visit(0, 1, 9), x.visit(0, 2, 31), x.visit(0, 11, 9), x.visit(4, 2, 9), x.visit(0, 2, -1)},
            {x.wash(1, 1), x.wash(1, 0), x.wash(4, 1), x.wash(0, 2)},
            {x.change(0, 1), x.change(0, 5), x.change(0, -1), x.change(2, 0), x.change(-1, 0)},
            {x.house(), x.week(), x.restore(), x.film(0, 2, 0), x.shown(1, 0), x.seen(0, 1, 0), x.reach(4)}};
        for (int[] row : refused) {
            for (int i = 0; i < row.length; i++) {
                doc.holds("a refusal: " + row[i], row[i] < 0);
            }
        }
        doc.holds("all is as it was", before.equals(Due.state(x)));
        x.type(Due.word("0-1"), 3);
        doc.is("type refused", BAD, x.type(Due.word("l0") << 8 | 7, 3));
        doc.is("type refused", BAD, x.type(Due.word("l"), 9));
        doc.is("the tape is as it was", 5, x.type(Due.word("l7"), 2));
        doc.is("it reads 0-1l7", 1, x.house());
        doc.is("with lock 7", 7, x.of(0, 2));
        Due.goTo(x, 999);
        doc.is("next refused", FULL, x.next());
        doc.is("the day is as it was", 999, x.count(3));
    }

    private static void refusedAsTold() {
        doc.terms("What is refused changes nothing, but as told");
        TellKeys x = new TellKeys();
        doc.is("house refused", -20, Due.house(x, "x0-1"));
        doc.is("the tape is empty all the same", 3, x.type(Due.word("0-1"), 3));
        doc.is("it reads 0-1", 1, x.house());
        doc.is("week refused", -20, Due.week(x, "xn"));
        doc.is("the tape is empty all the same", 1, x.type(Due.word("n"), 1));
        doc.is("it reads n", 1, x.week());
    }

    private static TellKeys eightKeys() {
        return Due.with("1-2", 0, IRON, IRON, IRON, IRON, IRON, IRON, IRON, IRON);
    }

    private static void refusedSheets() {
        doc.terms("What is refused changes nothing");
        TellKeys x = eightKeys();
        x.sheet(0, 2, 3);
        x.sheet(1, 1, 3);
        Due.fill(x, 0, 2, 4, 5, 6);
        Due.fill(x, 1, 1, 7, 7, 7);
        int[] refused = {x.item(0, 2, 3, 1), x.item(0, 2, -1, 1), x.item(0, 1, 0, 1), x.item(0, 3, 0, 1),
            x.copy(0, 0, 0, 1, 3), x.copy(0, 1, 0, 0, 3), x.copy(1, 0, 0, 0, 1), x.copy(0, 0, 0, 2, -1),
            x.film(0, 2, 0), x.film(0, 2, 3), x.film(0, 1, 0), x.sheet(0, 1, -1), x.sheet(0, 1, 25), x.sheet(0, 3, 2),
            x.drop(-1), x.drop(4)};
        for (int answer : refused) {
            doc.holds("a refusal: " + answer, answer < 0);
        }
        for (int i = 0; i < 3; i++) {
            doc.is("item " + i, 4 + i, Due.read(x, 0, 2, i));
            doc.is("item " + i + " of the other one", 7, Due.read(x, 1, 1, i));
        }
        doc.is("it has as many", 3, x.drop(0));
    }

    private static void sets() {
        doc.terms("Sets are bits");
        TellKeys x = Due.with("0-1,1-9l2", 0, IRON, IRON, IRON);
        doc.is("reach with none", 1 | 1 << 1 | 1 << 10, x.reach(0));
        doc.is("reach with key 2", 1 | 1 << 1 | 1 << 9 | 1 << 10, x.reach(1 << 2));
        doc.is("fits all", 0x3fe, x.fits(-1, -1, -1));
        doc.is("fits the last", 1 << 9, x.fits(1, -1, -1));
    }

    private static void rooms() {
        doc.terms("ROOMS are 0 (THE HALL) to 9; 10 is THE GARDEN");
        TellKeys x = new TellKeys();
        doc.is("a door of room 9", 0, x.door(0, 9, 8));
        doc.is("a door of THE HALL, one of THE GARDEN", 1, x.door(1, 10, 8));
        doc.is("no room 11", BAD, x.door(1, 11, 8));
        doc.is("no room -1", BAD, x.door(-1, 1, 8));
        int[] rooms = {-1, 0, 9, 10, 11};
        int[] visits = {BAD, 4, 6, 6, BAD};
        int[] seen = {BAD, 0, 2, 2, BAD};
        for (int i = 0; i < rooms.length; i++) {
            doc.is("visit " + rooms[i], visits[i], x.visit(0, rooms[i], 4));
            doc.is("seen " + rooms[i], seen[i], x.seen(0, rooms[i], 0));
        }
    }

    private static void doorNumbers() {
        doc.terms("DOORS 0 .. 15, as they come,");
        TellKeys x = new TellKeys();
        for (int door = 0; door < 16; door++) {
            doc.is("of a door still to come", BAD, x.of(door, 0));
            doc.is("it comes", door, x.door(1 + door % 8, 9, door % 9));
            doc.is("it is there", 1 + door % 8, x.of(door, 0));
        }
        doc.is("of door 16", BAD, x.of(16, 0));
        doc.is("of door -1", BAD, x.of(-1, 0));
    }

    private static void sides() {
        doc.terms("are between two unlike of these");
        for (int a = 0; a <= 10; a++) {
            TellKeys x = new TellKeys();
            int doors = 0;
            for (int b = 0; b <= 10; b++) {
                boolean may = a != b && !(a == 0 && b == 10) && !(a == 10 && b == 0);
                doc.is("a door " + a + " to " + b, may ? doors : BAD, x.door(a, b, 8));
                doors += may ? 1 : 0;
            }
            doc.is("doors of " + a, doors, x.count(0));
        }
    }

    private static void locks() {
        doc.terms("with a LOCK (of a KEY 0 .. 7, there or not) or without one (8)");
        TellKeys x = new TellKeys();
        for (int lock = 0; lock <= 8; lock++) {
            doc.is("lock " + lock, lock, x.door(0, 1 + lock, lock));
            doc.is("it has it", lock, x.of(lock, 2));
        }
        doc.is("lock 9", BAD, x.door(0, 1, 9));
        doc.is("lock -1", BAD, x.door(0, 1, -1));
        for (int key = 0; key < 8; key++) {
            doc.is("shut while its key is not there", NOT, x.visit(0, 1 + key, 1));
            x.key(IRON, 1);
            x.change(key, 0);
            doc.is("open with it", 3, x.visit(0, 1 + key, 1));
        }
        doc.is("open without a lock", 3, x.visit(3, 9, 1));
    }

    private static void windows() {
        doc.terms("a DOOR to THE GARDEN is a WINDOW");
        TellKeys x = new TellKeys();
        x.door(1, 10, 0);
        doc.is("to THE GARDEN", 1, x.count(5));
        x.door(10, 9, 8);
        doc.is("from THE GARDEN", 2, x.count(5));
        x.door(9, 1, 8);
        x.door(0, 1, 8);
        doc.is("no other one", 2, x.count(5));
    }

    private static void passed() {
        doc.terms("A DOOR can be passed, either way, with the KEY of its LOCK, or if it has none");
        TellKeys x = Due.with("0-1l0,2-1l0,2-3,4-3,0-5l1", 0, IRON, IRON);
        x.change(1, 1);
        doc.is("with the key", 2, x.seen(0, 1, 0));
        doc.is("the other way with the key", 4, x.seen(0, 2, 0));
        doc.is("without a lock", 6, x.seen(0, 3, 0));
        doc.is("the other way without a lock", 8, x.seen(0, 4, 0));
        doc.is("with another key", NONE, x.seen(0, 5, 0));
        doc.is("another one with it", 2, x.seen(1, 5, 0));
        doc.is("without a key", NONE, x.seen(2, 1, 0));
        Due.house(x, "0-9,0-8,9-8");
        Due.house(x, "0-1l0");
        doc.is("a door that is there no more", NONE, x.seen(0, 8, 0));
        doc.is("nor by the first one", NONE, x.seen(0, 9, 0));
        doc.is("nor for all keys", 1 | 1 << 1 | 1 << 10, x.reach(3));
    }

    private static void beside() {
        doc.terms("THE GARDEN and THE HALL, too, are beside each other always");
        TellKeys x = new TellKeys();
        doc.is("in a new house", 2, x.seen(3, 10, 1));
        doc.is("for nobody's keys", 1 | 1 << 10, x.reach(0));
        for (int i = 0; i < 16; i++) {
            x.door(1, 2, 7);
        }
        doc.is("in a full house", 2, x.seen(3, 10, 1));
        doc.is("from THE GARDEN on", 16, Due.house(x, "g-1,1-2l7,1-2l7,1-2l7,1-2l7,1-2l7,1-2l7,1-2l7,1-2l7,"
            + "1-2l7,1-2l7,1-2l7,1-2l7,1-2l7,1-2l7,1-2l7"));
        doc.is("in a house told", 2, x.seen(0, 10, 0));
        doc.is("and on from there", 4, x.seen(0, 1, 0));
        doc.is("it is no door", 16, x.count(0));
        doc.is("and no window", 1, x.count(5));
    }

    private static void keyNumbers() {
        doc.terms("KEYS 0 .. 7, as they come,");
        TellKeys x = new TellKeys();
        for (int key = 0; key < 8; key++) {
            doc.is("told of a key still to come", BAD, x.told(key, 0));
            doc.is("it comes", key, x.key(key % 4, 1));
            doc.is("it is there", key % 4, x.told(key, 0));
        }
        doc.is("told of key 8", BAD, x.told(8, 0));
        doc.is("told of key -1", BAD, x.told(-1, 0));
    }

    private static void hung() {
        doc.terms("hang on THE HOOK (4) at first, or on the RING of a SISTER (0 .. 3)");
        TellKeys x = Due.with("0-1l0", 0);
        x.key(IRON, 1);
        doc.is("at first", 4, x.told(0, 2));
        for (int sister = 0; sister <= 3; sister++) {
            doc.is("not on a ring yet", NOT, x.visit(sister, 1, 1));
            x.change(0, sister);
            doc.is("on the ring of " + sister, sister, x.told(0, 2));
            doc.is("she has it", 3, x.visit(sister, 1, 1));
        }
        doc.is("no sister 4, though it is THE HOOK", BAD, x.visit(4, 1, 1));
        doc.is("no sister -1", BAD, x.visit(-1, 1, 1));
        TellKeys y = Due.with("0-1l0", 0);
        y.image();
        y.key(IRON, 1);
        y.change(0, 0);
        y.restore();
        doc.is("a key that is there no more hangs nowhere", NOT, y.visit(0, 1, 1));
        y.key(IRON, 1);
        doc.is("a new one hangs on THE HOOK", 4, y.told(0, 2));
    }

    private static void noStain() {
        doc.terms("MINUTES (0: none)");
        TellKeys x = Due.with("0-1l0", 0, IRON);
        doc.is("none at first", 0, x.told(0, 3));
        doc.is("none is not counted", 0, x.count(2));
        doc.is("none shows nothing", 0, x.shown(0, 999));
        x.visit(0, 1, 1);
        doc.is("one minute is a stain", 1, x.count(2));
        TellKeys y = Due.with("0-1l0", 0);
        y.image();
        y.next();
        y.key(IRON, 1);
        y.change(0, 0);
        y.visit(0, 1, 9);
        y.restore();
        y.key(IRON, 1);
        doc.is("a new key in place of a stained one has none", 0, y.told(0, 3));
        doc.is("and no day of one", 0, y.told(0, 4));
    }

    private static TellKeys withStains(int minutes) {
        TellKeys x = Due.with("0-1l0,1-2l1,2-3l2,3-4l3", 0, IRON, BRASS, GLASS, SILVER);
        Due.goTo(x, 5);
        x.visit(0, 4, minutes);
        return x;
    }

    private static void most() {
        doc.terms("SHOWN on a DAY: MINUTES at most");
        int[] stays = {1, 2, 3, 29, 30};
        for (int minutes : stays) {
            TellKeys x = withStains(minutes);
            for (int key = 0; key < 4; key++) {
                doc.is("all of " + minutes + " of key " + key, minutes, x.shown(key, 5 + minutes + 2));
                doc.is("no more of " + minutes, minutes, x.shown(key, 5 + minutes + 3));
                doc.is("no more of " + minutes + " on the last day", minutes, x.shown(key, 999));
            }
        }
    }

    private static void kinds() {
        TellKeys x = withStains(5);
        doc.terms("0 IRON: as many as DAYS went by since it got the STAIN");
        rowIs(x, 0, 0, 1, 2, 3, 4, 5, 5, 5, 5);
        doc.terms("1 BRASS: 2 less (0 at least)");
        rowIs(x, 1, 0, 0, 0, 1, 2, 3, 4, 5, 5);
        doc.terms("2 GLASS: twice as many");
        rowIs(x, 2, 0, 2, 4, 5, 5, 5, 5, 5, 5);
        doc.terms("3 SILVER (below BRASS): as BRASS");
        rowIs(x, 3, 0, 0, 0, 1, 2, 3, 4, 5, 5);
        doc.terms("but it can be washed");
        for (int key = 0; key < 4; key++) {
            doc.is("wash key " + key, key == SILVER ? 2 : NOT, x.wash(0, key));
        }
    }

    private static void rowIs(TellKeys x, int key, int... shown) {
        for (int days = 0; days < shown.length; days++) {
            doc.is("shown by " + key + " after " + days, shown[days], x.shown(key, 5 + days));
        }
    }

    private static void days() {
        doc.terms("DAYS are 0 .. 999; TODAY is 0 at first");
        TellKeys x = new TellKeys();
        doc.is("at first", 0, x.count(3));
        x.key(IRON, 1);
        doc.is("day 0", 0, x.shown(0, 0));
        doc.is("day 999", 0, x.shown(0, 999));
        doc.is("day 1000", BAD, x.shown(0, 1000));
        doc.is("day -1", BAD, x.shown(0, -1));
        Due.goTo(x, 998);
        doc.is("day 999 comes", 999, x.next());
        doc.is("day 1000 does not", FULL, x.next());
        doc.is("still day 999", 999, x.count(3));
        doc.is("shown today", 0, x.shown(0, 999));
    }

    private static void washed() {
        doc.terms("its STAIN has half the MINUTES then, cut (0: none), and the same DAY");
        TellKeys x = Due.with("0-1l0", 0, SILVER);
        x.next();
        x.visit(0, 1, 30);
        x.next();
        int[] halves = {15, 7, 3, 1};
        for (int half : halves) {
            doc.is("half", half, x.wash(0, 0));
            doc.is("it has half", half, x.told(0, 3));
            doc.is("of the same day", 1, x.told(0, 4));
            doc.is("it is a stain", 1, x.count(2));
        }
        doc.is("half of 1", 0, x.wash(0, 0));
        doc.is("none", 0, x.count(2));
        doc.is("no day of it", 0, x.told(0, 4));
        doc.is("half of none", 0, x.wash(0, 0));
        x.visit(0, 1, 2);
        doc.is("a new stain", 2, x.told(0, 3));
        doc.is("of today", 2, x.told(0, 4));
        TellKeys y = Due.with("0-1l0,0-2l1", 0, IRON, SILVER);
        y.next();
        y.visit(0, 2, 1);
        y.wash(0, 1);
        doc.is("a key behind the first: no day", 0, y.told(1, 4));
        y.visit(0, 1, 9);
        y.visit(0, 2, 9);
        doc.is("half", 4, y.wash(0, 1));
        doc.is("of the same day, whatever the first has", 1, y.told(1, 4));
        doc.is("a quarter", 2, y.wash(0, 1));
        doc.is("an eighth", 1, y.wash(0, 1));
        doc.is("nothing", 0, y.wash(0, 1));
        doc.is("and no day, whatever the first has", 0, y.told(1, 4));
        doc.is("the first has all of its own", 9, y.told(0, 3));
        doc.is("of its own day", 1, y.told(0, 4));
    }

    private static void stainsAre(TellKeys x, String of, int... minutes) {
        for (int key = 0; key < minutes.length; key++) {
            doc.is(of + ": stain of " + key, minutes[key], x.told(key, 3));
        }
    }

    private static void ways() {
        doc.terms("by the fewest DOORS, of such ways by the first as a row of DOORS");
        TellKeys x = Due.with("0-1,1-2,2-3,0-3l0", 0, IRON);
        doc.is("one door, though its number is higher", 9, x.visit(0, 3, 7));
        stainsAre(x, "one door", 7);
        x = Due.with("0-1l0,0-1l1", 0, IRON, IRON);
        x.visit(0, 1, 7);
        stainsAre(x, "the first of two doors", 7, 0);
        x.change(0, 4);
        x.visit(0, 1, 8);
        stainsAre(x, "the one that she can pass", 7, 8);
        x = Due.with("0-2l0,2-3l1,1-3l2,0-1l3", 0, IRON, IRON, IRON, IRON);
        x.visit(0, 3, 7);
        stainsAre(x, "0, 1 ahead of 3, 2", 7, 7, 0, 0);
        x = Due.with("2-3l0,1-3l1,0-1l2,0-2l3", 0, IRON, IRON, IRON, IRON);
        x.visit(0, 3, 7);
        stainsAre(x, "2, 1 ahead of 3, 0", 0, 7, 7, 0);
        x = Due.with("5-6l0,1-0l1,2-1l2", 0, IRON, IRON, IRON);
        x.visit(0, 2, 7);
        stainsAre(x, "1, 2, from their other sides", 0, 7, 7);
        x = Due.with("g-1,1-2,2-3,3-4,4-5,5-6,6-7,7-8,8-9l0", 0, IRON);
        doc.is("as many as there can be", 20 + 3, x.visit(0, 9, 3));
        stainsAre(x, "the last of ten", 3);
    }

    private static void step() {
        doc.terms("by THE STEP between THE HALL and THE GARDEN (it counts as DOOR 16)");
        TellKeys x = Due.with("g-1l0,1-2l1,0-2l2", 0, IRON, IRON, IRON);
        doc.is("by THE STEP alone", 2, x.visit(0, 10, 0));
        x.visit(0, 1, 7);
        stainsAre(x, "2, 1 ahead of 16, 0", 0, 7, 7);
        x.change(2, 4);
        doc.is("by THE STEP", 4 + 8, x.visit(0, 1, 8));
        stainsAre(x, "16, 0", 8, 7, 7);
        x = Due.with("0-5l1,g-1l0", 0, IRON, IRON);
        x.visit(0, 1, 7);
        stainsAre(x, "16, 1, whatever door 0 is", 7, 0);
        x = Due.with("3-1,3-1,3-1,3-1,3-1,3-1,3-1,3-1,3-1,3-1,3-1,3-1,3-1,g-1l0,0-2l1,1-2", 0, IRON, IRON);
        x.visit(0, 1, 7);
        stainsAre(x, "14, 15 ahead of 16, 13", 0, 7);
    }

    private static void stays() {
        doc.terms("she stays there for MINUTES (0 .. 30), and goes back by the same");
        TellKeys x = Due.with("0-1l0", 0, IRON);
        doc.is("no minute", 2, x.visit(0, 1, 0));
        stainsAre(x, "no minute", 0);
        doc.is("one minute", 3, x.visit(0, 1, 1));
        stainsAre(x, "one minute", 1);
        doc.is("30 minutes", 32, x.visit(0, 1, 30));
        stainsAre(x, "30 minutes", 30);
        doc.is("31 minutes", BAD, x.visit(0, 1, 31));
        doc.is("-1 minutes", BAD, x.visit(0, 1, -1));
    }

    private static void minutesOnTheWay() {
        doc.terms("each DOOR is one MINUTE, each time");
        TellKeys x = Due.with("0-1,1-2,2-3,3-4,4-5,5-6,6-7,7-8,8-9", 0);
        for (int room = 0; room <= 9; room++) {
            doc.is("to room " + room, 2 * room + 4, x.visit(0, room, 4));
        }
        doc.is("to THE GARDEN", 2 + 4, x.visit(0, 10, 4));
    }

    private static void stained() {
        doc.terms("Each KEY that TELLS and is that of a LOCK on the way gets a STAIN");
        TellKeys x = Due.with("0-1l0,1-2l3,2-3,0-4l1", 0, IRON, IRON, IRON);
        x.key(IRON, 0);
        x.change(3, 0);
        x.visit(0, 3, 6);
        stainsAre(x, "on the way, not on it, of no lock, not telling", 6, 0, 0, 0);
        doc.terms("of as many MINUTES as she stayed, TODAY, if its own is of fewer");
        x.next();
        x.visit(0, 1, 5);
        doc.is("its own is of more", 6, x.told(0, 3));
        doc.is("of day 0", 0, x.told(0, 4));
        x.visit(0, 1, 6);
        doc.is("its own is of as many: still of day 0", 0, x.told(0, 4));
        x.visit(0, 1, 7);
        doc.is("its own is of fewer", 7, x.told(0, 3));
        doc.is("of day 1", 1, x.told(0, 4));
        x.visit(0, 1, 0);
        doc.is("none stays away", 7, x.told(0, 3));
        x.visit(0, 4, 0);
        doc.is("none is not fewer than none", 0, x.told(1, 4));
    }

    private static void changed() {
        doc.terms("a KEY goes from where it is to the RING of a SISTER, or to THE HOOK");
        TellKeys x = new TellKeys();
        x.key(IRON, 1);
        for (int from = 4; from >= 0; from--) {
            for (int to = 0; to <= 4; to++) {
                doc.is(from + " to " + to, from == to ? NOT : from, x.change(0, to));
                doc.is("it is there", to, x.told(0, 2));
                x.change(0, from);
            }
            x.change(0, Math.max(0, from - 1));
        }
        doc.is("to nobody", BAD, x.change(0, 5));
        doc.is("to nobody", BAD, x.change(0, -1));
    }
}
