import java.io.IOException;

/** What promises 23 to 27 say of bounds, a sentence a test: films, sheets, their items and copies of these. */
public final class BoundsSheetsTest {
    private static final int BAD = -1, NOT = -2, NULL = -11, CAST = -12, INDEX = -13, SIZE = -14;
    private static final int MAX = Integer.MAX_VALUE, MIN = Integer.MIN_VALUE;
    private static final int IRON = 0, SILVER = 3;
    private static Sentences doc;

    public static void main(String[] args) throws IOException {
        doc = new Sentences("BoundsSheetsTest");
        film();
        filmRefused();
        filmIndex();
        filmOfNone();
        sheet();
        sheetBad();
        sheetSize();
        drop();
        item();
        itemBits();
        itemRefused();
        itemIndex();
        copy();
        copyOverlaps();
        copyRefused();
        copyIndex();
        copyNone();
        doc.endOf(23, 27);
    }

    private static TellKeys withKeys() {
        return Due.with("0-1l0,0-2l1,0-3l2", 0, IRON, SILVER, IRON, IRON, IRON, IRON, IRON, IRON);
    }

    private static void itemsAre(TellKeys x, String of, int sheet, int lane, int... items) {
        for (int i = 0; i < items.length; i++) {
            doc.is(of + ": item " + i, items[i], Due.read(x, sheet, lane, i));
        }
    }

    private static void film() {
        doc.promise(23, "MINUTES of STAINS of all KEYS come to a SHEET, taken as a row of a LANE, from one on: how many");
        for (int lane = 0; lane < 3; lane++) {
            TellKeys x = withKeys();
            x.visit(0, 1, 5);
            x.visit(0, 2, 3);
            x.visit(0, 3, 7);
            x.wash(0, 1);
            x.sheet(0, lane, 10);
            Due.fill(x, 0, lane, 6, 6, 6, 6, 6, 6, 6, 6, 6, 6);
            doc.is("all eight", 8, x.film(0, lane, 1));
            itemsAre(x, "lane " + lane, 0, lane, 6, 5, 1, 7, 0, 0, 0, 0, 0, 6);
        }
        TellKeys y = new TellKeys();
        y.sheet(0, 1, 24);
        for (int keys = 0; keys <= 8; keys++) {
            doc.is("as many as there are", keys, y.film(0, 1, 24 - keys));
            y.key(IRON, 0);
        }
        TellKeys z = withKeys();
        z.visit(0, 1, 5);
        z.sheet(0, 2, 3);
        z.sheet(2, 2, 8);
        doc.is("to sheet 2", 8, z.film(2, 2, 0));
        doc.is("it came there", 5, Due.read(z, 2, 2, 0));
        doc.is("not to sheet 0", 0, Due.read(z, 0, 2, 0));
    }

    private static void filmRefused() {
        TellKeys x = withKeys();
        x.sheet(0, 0, 8);
        x.sheet(1, 1, 8);
        x.sheet(2, 2, 8);
        doc.promise(23, "BAD;");
        doc.badAhead(x, "film", new int[] {1, 1, 0}, 0, 3, 0, 2);
        doc.promise(23, "NULL;");
        for (int lane = 0; lane < 3; lane++) {
            doc.is("nothing there", NULL, x.film(3, lane, 0));
        }
        doc.promise(23, "CAST;");
        for (int sheet = 0; sheet < 3; sheet++) {
            for (int lane = 0; lane < 3; lane++) {
                doc.is("a row of " + sheet + " as one of " + lane, sheet == lane ? 8 : CAST, x.film(sheet, lane, 0));
            }
        }
    }

    private static void filmIndex() {
        doc.promise(23, "INDEX");
        TellKeys x = withKeys();
        x.visit(0, 1, 5);
        x.sheet(0, 2, 10);
        int[] from = {-1, 3, 4, 9, 10, 11, MAX, MIN};
        for (int i : from) {
            doc.is("from " + i, INDEX, x.film(0, 2, i));
        }
        itemsAre(x, "nothing came of it", 0, 2, 0, 0, 0, 0);
        doc.is("from 2 to the end", 8, x.film(0, 2, 2));
        doc.is("from 0", 8, x.film(0, 2, 0));
        x.sheet(0, 2, 7);
        doc.is("a row too short", INDEX, x.film(0, 2, 0));
        x.sheet(0, 2, 8);
        doc.is("a row just long enough", 8, x.film(0, 2, 0));
    }

    private static void filmOfNone() {
        doc.promise(23, "(of none, too: from below 0, or above how many there are)");
        TellKeys x = new TellKeys();
        x.sheet(0, 2, 24);
        doc.is("from 0", 0, x.film(0, 2, 0));
        doc.is("from behind the last", 0, x.film(0, 2, 24));
        doc.is("from above that", INDEX, x.film(0, 2, 25));
        doc.is("from below 0", INDEX, x.film(0, 2, -1));
        doc.is("from far above", INDEX, x.film(0, 2, MAX));
        doc.is("from far below", INDEX, x.film(0, 2, MIN));
        x.sheet(0, 2, 0);
        doc.is("of a row of none", 0, x.film(0, 2, 0));
        doc.is("above it", INDEX, x.film(0, 2, 1));
        x.key(IRON, 0);
        doc.is("of one key", INDEX, x.film(0, 2, 0));
    }

    private static void sheet() {
        doc.promise(24, "A SHEET holds a new row of a LANE: n");
        TellKeys x = withKeys();
        for (int n = 0; n <= 24; n++) {
            doc.is("a row of " + n, n, x.sheet(0, 1, n));
            doc.is("behind its last", INDEX, x.item(0, 1, n, 5));
            doc.is("its last", n == 0 ? INDEX : 1, x.item(0, 1, n - 1, 5));
        }
        doc.is("of other items", 24, x.sheet(0, 1, 24));
        doc.is("its last is new", 0, Due.read(x, 0, 1, 23));
        doc.is("its first is new", 0, Due.read(x, 0, 1, 0));
        x.item(0, 1, 0, 5);
        x.sheet(0, 1, 1);
        doc.is("new in a shorter one", 0, Due.read(x, 0, 1, 0));
        x.sheet(0, 0, 4);
        doc.is("of another lane now", CAST, x.item(0, 1, 0, 5));
        x.item(0, 0, 0, 5);
        x.drop(0);
        x.sheet(0, 0, 4);
        doc.is("new behind a drop", 0, Due.read(x, 0, 0, 0));
    }

    private static void sheetBad() {
        doc.promise(24, "BAD: also n above 24");
        TellKeys x = new TellKeys();
        doc.is("24", 24, x.sheet(0, 0, 24));
        doc.is("25", BAD, x.sheet(0, 0, 25));
        doc.is("far above", BAD, x.sheet(0, 0, MAX));
        int[] wrong = {-1, 4, MIN, MAX};
        for (int sheet : wrong) {
            doc.is("sheet " + sheet, BAD, x.sheet(sheet, 0, 1));
            doc.is("sheet " + sheet + ", below 0", BAD, x.sheet(sheet, 0, -1));
        }
        int[] lanes = {-1, 3, MIN, MAX};
        for (int lane : lanes) {
            doc.is("lane " + lane, BAD, x.sheet(0, lane, 1));
            doc.is("lane " + lane + ", below 0", BAD, x.sheet(0, lane, -1));
        }
        doc.is("the row is as it was", 24, x.drop(0));
    }

    private static void sheetSize() {
        doc.promise(24, "SIZE: n below 0");
        TellKeys x = withKeys();
        x.sheet(0, 2, 3);
        x.item(0, 2, 2, 7);
        doc.is("-1", SIZE, x.sheet(0, 0, -1));
        doc.is("far below", SIZE, x.sheet(0, 1, MIN));
        doc.is("0", 0, x.sheet(1, 0, 0));
        doc.is("the row is as it was", 7, Due.read(x, 0, 2, 2));
        doc.is("as long as it was", 3, x.drop(0));
        doc.is("where nothing is", SIZE, x.sheet(2, 1, -1));
        doc.is("nothing is there", NULL, x.drop(2));
    }

    private static void drop() {
        TellKeys x = new TellKeys();
        doc.promise(25, "A SHEET holds nothing: how many items it had");
        int[] sizes = {0, 1, 23, 24};
        for (int sheet = 0; sheet < 4; sheet++) {
            x.sheet(sheet, sheet % 3, sizes[sheet]);
        }
        for (int sheet = 0; sheet < 4; sheet++) {
            doc.is("how many", sizes[sheet], x.drop(sheet));
            doc.is("no item", NULL, x.item(sheet, sheet % 3, 0, 1));
            doc.is("no film", NULL, x.film(sheet, sheet % 3, 0));
            doc.is("none to ask of", NULL, x.asked(sheet, sheet % 3, 0, 1, 0));
            doc.is("none to copy", NULL, x.copy(sheet, 0, sheet, 0, 0));
        }
        doc.promise(25, "BAD;");
        doc.bad(x, "drop", new int[] {0}, 0, 3);
        doc.promise(25, "NULL.");
        for (int sheet = 0; sheet < 4; sheet++) {
            doc.is("nothing there", NULL, x.drop(sheet));
        }
        x.sheet(0, 2, 0);
        doc.is("a row of none is not nothing", 0, x.drop(0));
        doc.is("nothing there now", NULL, x.drop(0));
    }

    private static void item() {
        doc.promise(26, "Item i of a SHEET, taken as a row of a LANE, becomes v");
        for (int lane = 0; lane < 3; lane++) {
            TellKeys x = withKeys();
            x.sheet(0, lane, 24);
            doc.is("the first", 1, x.item(0, lane, 0, 6));
            doc.is("the last", 1, x.item(0, lane, 23, 7));
            doc.is("one between", 1, x.item(0, lane, 11, 0));
            doc.is("the first once more", 1, x.item(0, lane, 0, 5));
            doc.is("the first", 5, Due.read(x, 0, lane, 0));
            doc.is("behind it", 0, Due.read(x, 0, lane, 1));
            doc.is("ahead of the last", 0, Due.read(x, 0, lane, 22));
            doc.is("the last", 7, Due.read(x, 0, lane, 23));
        }
    }

    private static void itemBits() {
        doc.promise(26, "its lowest bits (with its sign): 1");
        int[][] keys = {{256, 0}, {263, 7}, {-256, 0}, {-249, 7}, {128, -1}, {255, -1}, {-1, -1}, {MIN, 0}, {MAX, -1},
            {65536 + 3, 3}, {32768, 0}};
        TellKeys x = withKeys();
        x.sheet(0, 0, 2);
        for (int[] of : keys) {
            doc.is("bytes: " + of[0], 1, x.item(0, 0, 0, of[0]));
            doc.is("bytes: it is " + of[1], of[1], Due.read(x, 0, 0, 0));
        }
        int[][] shorts = {{65536, 0}, {65543, 7}, {-65529, 7}, {256, -1}, {32768, -1}, {65535, -1}, {-1, -1}, {MIN, 0},
            {MAX, -1}};
        x = withKeys();
        x.sheet(0, 1, 2);
        for (int[] of : shorts) {
            doc.is("shorts: " + of[0], 1, x.item(0, 1, 0, of[0]));
            doc.is("shorts: it is " + of[1], of[1], Due.read(x, 0, 1, 0));
        }
        int[][] ints = {{7, 7}, {256, -1}, {65536, -1}, {65543, -1}, {-1, -1}, {MIN, -1}, {MAX, -1}};
        x = withKeys();
        x.sheet(0, 2, 2);
        for (int[] of : ints) {
            doc.is("ints: " + of[0], 1, x.item(0, 2, 0, of[0]));
            doc.is("ints: it is " + of[1], of[1], Due.read(x, 0, 2, 0));
        }
        itemDays();
    }

    /** A number that is no key may be a day; one that is neither is below 0 or above 999. */
    private static void itemDays() {
        int[][] days = {{127, 1, 1, 1}, {128, 0, 1, 1}, {255, 0, 1, 1}, {256, 1, 1, 1}, {999, 0, 1, 1}, {1023, 0, 0, 0},
            {1000, 0, 0, 0}, {65536, 1, 1, 0}, {65536 + 999, 0, 1, 0}, {-1, 0, 0, 0}, {-65536, 1, 1, 0}};
        for (int[] of : days) {
            for (int lane = 0; lane < 3; lane++) {
                TellKeys x = withKeys();
                x.sheet(0, lane, 2);
                x.item(0, lane, 1, of[0]);
                doc.is(of[0] + " as a day of lane " + lane, of[1 + lane] == 1 ? 0 : NOT, x.asked(0, lane, 0, 1, 0));
            }
        }
    }

    private static void itemRefused() {
        TellKeys x = withKeys();
        x.sheet(0, 0, 2);
        x.sheet(1, 1, 2);
        x.sheet(2, 2, 2);
        doc.promise(26, "BAD;");
        doc.badAhead(x, "item", new int[] {1, 1, 0, 5}, 0, 3, 0, 2);
        doc.promise(26, "NULL;");
        for (int lane = 0; lane < 3; lane++) {
            doc.is("nothing there", NULL, x.item(3, lane, 0, 1));
        }
        doc.promise(26, "CAST;");
        for (int sheet = 0; sheet < 3; sheet++) {
            for (int lane = 0; lane < 3; lane++) {
                doc.is("a row of " + sheet + " as one of " + lane, sheet == lane ? 1 : CAST, x.item(sheet, lane, 1, 4));
            }
            itemsAre(x, "sheet " + sheet, sheet, sheet, 0, 4);
        }
    }

    private static void itemIndex() {
        doc.promise(26, "INDEX.");
        for (int lane = 0; lane < 3; lane++) {
            TellKeys x = withKeys();
            x.sheet(0, lane, 3);
            int[] wrong = {-1, 3, 4, 23, 24, MIN, MAX};
            for (int i : wrong) {
                doc.is("item " + i + " of 3", INDEX, x.item(0, lane, i, 1));
            }
            itemsAre(x, "nothing came of it", 0, lane, 0, 0, 0);
            x.sheet(0, lane, 0);
            doc.is("of none", INDEX, x.item(0, lane, 0, 1));
        }
    }

    private static TellKeys twoRows(int lane) {
        TellKeys x = withKeys();
        x.sheet(0, lane, 6);
        x.sheet(1, lane, 4);
        Due.fill(x, 0, lane, 1, 2, 3, 4, 5, 6);
        return x;
    }

    private static void copy() {
        doc.promise(27, "n items of a SHEET from i on come to another one (or the same) from j on");
        for (int lane = 0; lane < 3; lane++) {
            TellKeys x = twoRows(lane);
            doc.is("two of them", 2, x.copy(0, 4, 1, 1, 2));
            itemsAre(x, "two of them", 1, lane, 0, 5, 6, 0);
            x = twoRows(lane);
            doc.is("all there is room for", 4, x.copy(0, 0, 1, 0, 4));
            itemsAre(x, "all there is room for", 1, lane, 1, 2, 3, 4);
            x = twoRows(lane);
            doc.is("all of it to itself", 6, x.copy(0, 0, 0, 0, 6));
            itemsAre(x, "all of it to itself", 0, lane, 1, 2, 3, 4, 5, 6);
            x = twoRows(lane);
            doc.is("the last to the first", 1, x.copy(0, 5, 0, 0, 1));
            itemsAre(x, "the last to the first", 0, lane, 6, 2, 3, 4, 5, 6);
        }
        TellKeys y = withKeys();
        y.sheet(0, 0, 1);
        y.item(0, 0, 0, -1);
        y.copy(0, 0, 0, 0, 1);
        doc.is("with its sign", -1, Due.read(y, 0, 0, 0));
    }

    private static void copyOverlaps() {
        doc.promise(27, "as if all were taken ahead: n");
        for (int lane = 0; lane < 3; lane++) {
            TellKeys x = twoRows(lane);
            doc.is("one place on", 5, x.copy(0, 0, 0, 1, 5));
            itemsAre(x, "one place on", 0, lane, 1, 1, 2, 3, 4, 5);
            x = twoRows(lane);
            doc.is("one place back", 5, x.copy(0, 1, 0, 0, 5));
            itemsAre(x, "one place back", 0, lane, 2, 3, 4, 5, 6, 6);
            x = twoRows(lane);
            doc.is("two places on", 3, x.copy(0, 1, 0, 3, 3));
            itemsAre(x, "two places on", 0, lane, 1, 2, 3, 2, 3, 4);
        }
    }

    private static void copyRefused() {
        TellKeys x = twoRows(1);
        x.sheet(2, 2, 4);
        doc.promise(27, "BAD;");
        int[] wrong = {-1, 4, MIN, MAX};
        for (int sheet : wrong) {
            doc.is("from " + sheet, BAD, x.copy(sheet, 0, 0, 0, 1));
            doc.is("to " + sheet, BAD, x.copy(0, 0, sheet, 0, 1));
            doc.is("from nothing to " + sheet, BAD, x.copy(3, -1, sheet, -1, -1));
        }
        doc.promise(27, "NULL (either);");
        doc.is("from", NULL, x.copy(3, 0, 0, 0, 1));
        doc.is("to", NULL, x.copy(0, 0, 3, 0, 1));
        doc.is("both", NULL, x.copy(3, 0, 3, 0, 0));
        doc.is("from, of unlike lanes perhaps", NULL, x.copy(3, 0, 2, 0, 0));
        doc.promise(27, "CAST: of unlike LANES;");
        int[] lanes = {0, 1, 2};
        for (int a : lanes) {
            for (int b : lanes) {
                TellKeys y = new TellKeys();
                y.sheet(0, a, 3);
                y.sheet(1, b, 3);
                doc.is(a + " to " + b, a == b ? 3 : CAST, y.copy(0, 0, 1, 0, 3));
                doc.is(a + " to " + b + ", none of them", a == b ? 0 : CAST, y.copy(0, 3, 1, 3, 0));
            }
        }
    }

    private static void copyIndex() {
        doc.promise(27, "INDEX (n below 0, too;");
        TellKeys x = twoRows(2);
        int[][] outside = {{0, 0, -1}, {3, 3, -1}, {0, 0, MIN}, {1, 1, MAX}, {0, 0, MAX}, {-1, 0, 1}, {0, -1, 1},
            {6, 0, 1}, {0, 4, 1}, {5, 0, 2}, {0, 3, 2}, {0, 0, 5}, {3, 0, 4}, {MAX, 0, 1}, {0, MAX, 1}, {MIN, 0, 1},
            {0, MIN, 1}, {MAX, MAX, MAX}, {MIN, MIN, MIN}, {-1, 0, 7}, {0, -1, 5}, {1, 1, -2}};
        for (int[] of : outside) {
            doc.is("copy " + of[0] + " " + of[1] + " " + of[2], INDEX, x.copy(0, of[0], 1, of[1], of[2]));
        }
        itemsAre(x, "nothing came of it", 1, 2, 0, 0, 0, 0);
        doc.is("to the end of both", 4, x.copy(0, 2, 1, 0, 4));
        doc.is("within the same, too far", INDEX, x.copy(0, 0, 0, 1, 6));
        doc.is("within the same, from too far", INDEX, x.copy(0, 1, 0, 0, 6));
    }

    private static void copyNone() {
        doc.promise(27, "with n 0, too, if i or j is below 0 or above how many there are)");
        TellKeys x = twoRows(2);
        doc.is("at both ends", 0, x.copy(0, 6, 1, 4, 0));
        doc.is("at both starts", 0, x.copy(0, 0, 1, 0, 0));
        int[][] outside = {{7, 0}, {0, 5}, {-1, 0}, {0, -1}, {MAX, 0}, {0, MAX}, {MIN, 0}, {0, MIN}, {7, 5}};
        for (int[] of : outside) {
            doc.is("none from " + of[0] + " to " + of[1], INDEX, x.copy(0, of[0], 1, of[1], 0));
        }
        x.sheet(2, 2, 0);
        doc.is("of a row of none", 0, x.copy(2, 0, 2, 0, 0));
        doc.is("above it", INDEX, x.copy(2, 1, 2, 0, 0));
        doc.is("one of none", INDEX, x.copy(2, 0, 0, 0, 1));
        itemsAre(x, "nothing came of it", 1, 2, 0, 0, 0, 0);
    }
}
