/** Promises 23 to 27: films, sheets and their items. Items are read by asked, whose days may be any number told. */
public final class SheetsTest {
    private static final int BAD = -1, NULL = -11, CAST = -12, INDEX = -13, SIZE = -14;
    private static final int MAX = Integer.MAX_VALUE, MIN = Integer.MIN_VALUE;
    private static final Due DUE = new Due("SheetsTest");

    public static void main(String[] args) {
        promise23();
        promise24();
        promise25();
        promise26();
        promise27();
        promise27Ahead();
        promise27Refusals();
        DUE.end();
    }

    private static TellKeys withKeys() {
        TellKeys x = new TellKeys();
        for (int i = 0; i < 8; i++) {
            x.key(0, 0);
        }
        return x;
    }

    private static void itemsAre(TellKeys x, String after, int sheet, int... items) {
        for (int i = 0; i < items.length; i++) {
            DUE.is(after + ": item " + i, items[i], Due.read(x, sheet, 2, i));
        }
    }

    private static void promise23() {
        TellKeys x = new TellKeys();
        x.sheet(0, 2, 4);
        DUE.is("no keys", 0, x.film(0, 2, 0));
        DUE.is("no keys, at the end", 0, x.film(0, 2, 4));
        DUE.is("no keys, behind it", INDEX, x.film(0, 2, 5));
        DUE.is("no keys, below 0", INDEX, x.film(0, 2, -1));
        x.sheet(0, 2, 0);
        DUE.is("of none", 0, x.film(0, 2, 0));
        DUE.is("of none, too far", INDEX, x.film(0, 2, 1));
        films();
        TellKeys y = withKeys();
        y.sheet(1, 1, 9);
        int[][] bad = {{-1, 1}, {4, 1}, {1, -1}, {1, 3}, {MAX, 1}, {1, MIN}};
        for (int[] of : bad) {
            DUE.is("film " + of[0] + " " + of[1], BAD, y.film(of[0], of[1], -1));
        }
        DUE.is("nothing there", NULL, y.film(0, 1, -1));
        DUE.is("another lane", CAST, y.film(1, 2, -1));
        int[] outside = {-1, 2, 9, 10, MAX, MIN};
        for (int from : outside) {
            DUE.is("from " + from, INDEX, y.film(1, 1, from));
        }
        DUE.is("from 1", 8, y.film(1, 1, 1));
        DUE.is("from 0", 8, y.film(1, 1, 0));
    }

    private static void films() {
        TellKeys x = withKeys();
        TellKeys told = new TellKeys();
        for (TellKeys y : new TellKeys[] {x, told}) {
            Due.house(y, "0-1l0,0-2l1,0-3l2");
        }
        for (int key = 0; key < 3; key++) {
            told.key(0, 1);
            told.change(key, 0);
            told.visit(0, key + 1, 5 - key);
        }
        for (int key = 3; key < 8; key++) {
            told.key(0, 0);
        }
        told.sheet(0, 2, 12);
        Due.fill(told, 0, 2, 7, 7, 7, 7, 7, 7, 7, 7, 7, 7, 7, 7);
        DUE.is("how many", 8, told.film(0, 2, 2));
        int[] items = {7, 7, 5, 4, 3, 0, 0, 0, 0, 0, 7, 7};
        int[] clean = {3, 4, 5, 6, 7};
        for (int i = 0; i < items.length; i++) {
            told.sheet(1, 2, 4);
            told.copy(0, i, 1, 0, 1);
            for (int key : clean) {
                told.item(1, 2, 2, key);
                DUE.is("item " + i + " against " + key, items[i] == key ? -2 : 0, told.asked(1, 2, 0, 2, -1));
            }
        }
        told.sheet(0, 2, 12);
        DUE.is("refused", INDEX, told.film(0, 2, 5));
        told.sheet(1, 2, 2);
        told.copy(0, 5, 1, 0, 1);
        told.item(1, 2, 1, 0);
        DUE.is("nothing came of it", 0, told.asked(1, 2, 0, 1, -1));
        for (int lane = 0; lane < 3; lane++) {
            told.sheet(2, lane, 8);
            DUE.is("lane " + lane, 8, told.film(2, lane, 0));
        }
    }

    private static void promise24() {
        TellKeys x = withKeys();
        int[][] bad = {{-1, 0, 1}, {4, 0, 1}, {0, -1, 1}, {0, 3, 1}, {0, 0, 25}, {0, 0, MAX}, {4, 0, -1}, {0, 3, -1},
            {MIN, 0, 1}, {0, MAX, 1}};
        for (int[] of : bad) {
            DUE.is("sheet " + of[0] + " " + of[1] + " " + of[2], BAD, x.sheet(of[0], of[1], of[2]));
        }
        DUE.is("below 0", SIZE, x.sheet(0, 0, -1));
        DUE.is("far below 0", SIZE, x.sheet(0, 2, MIN));
        DUE.is("nothing came of them", NULL, x.drop(0));
        for (int lane = 0; lane < 3; lane++) {
            DUE.is("none of lane " + lane, 0, x.sheet(lane, lane, 0));
            DUE.is("24 of lane " + lane, 24, x.sheet(lane, lane, 24));
            DUE.is("the last item", 1, x.item(lane, lane, 23, 1));
            DUE.is("behind it", INDEX, x.item(lane, lane, 24, 1));
        }
        DUE.is("refused", SIZE, x.sheet(2, 0, -1));
        DUE.is("the row stays", 1, x.item(2, 2, 23, 1));
        DUE.is("refused", BAD, x.sheet(2, 0, 25));
        DUE.is("the row stays", 24, x.drop(2));
        x.sheet(1, 2, 3);
        Due.fill(x, 1, 2, 5, 6, 7);
        itemsAre(x, "filled", 1, 5, 6, 7);
        DUE.is("a new row", 3, x.sheet(1, 2, 3));
        itemsAre(x, "new", 1, 0, 0, 0);
        DUE.is("a row of another lane", 2, x.sheet(1, 0, 2));
        DUE.is("it is of that lane", CAST, x.item(1, 2, 0, 1));
    }

    private static void promise25() {
        TellKeys x = new TellKeys();
        int[] bad = {-1, 4, MAX, MIN};
        for (int sheet : bad) {
            DUE.is("drop " + sheet, BAD, x.drop(sheet));
        }
        for (int sheet = 0; sheet < 4; sheet++) {
            DUE.is("nothing there", NULL, x.drop(sheet));
            x.sheet(sheet, sheet % 3, 6 * sheet);
            DUE.is("how many", 6 * sheet, x.drop(sheet));
            DUE.is("nothing there now", NULL, x.drop(sheet));
            DUE.is("no item", NULL, x.item(sheet, sheet % 3, 0, 0));
            DUE.is("no film", NULL, x.film(sheet, sheet % 3, 0));
        }
        x.sheet(0, 2, 4);
        x.item(0, 2, 0, 9);
        x.drop(0);
        x.sheet(0, 2, 4);
        x.key(0, 0);
        DUE.is("a row behind it is new", 0, x.asked(0, 2, 0, 1, 0));
    }

    private static void promise26() {
        TellKeys x = withKeys();
        x.sheet(0, 2, 5);
        int[][] bad = {{-1, 2}, {4, 2}, {0, -1}, {0, 3}, {MAX, 2}, {0, MIN}};
        for (int[] of : bad) {
            DUE.is("item " + of[0] + " " + of[1], BAD, x.item(of[0], of[1], -1, 1));
        }
        DUE.is("nothing there", NULL, x.item(1, 2, -1, 1));
        DUE.is("another lane", CAST, x.item(0, 1, -1, 1));
        int[] outside = {-1, 5, 24, MAX, MIN};
        for (int i : outside) {
            DUE.is("item " + i, INDEX, x.item(0, 2, i, 1));
        }
        itemsAre(x, "nothing came of them", 0, 0, 0, 0, 0, 0);
        DUE.is("the first", 1, x.item(0, 2, 0, 6));
        DUE.is("the last", 1, x.item(0, 2, 4, 7));
        itemsAre(x, "two of them", 0, 6, 0, 0, 0, 7);
        x.sheet(0, 2, 0);
        DUE.is("of none", INDEX, x.item(0, 2, 0, 1));
        int[][] cut = {{0, 256 + 3, 0}, {0, 128, -2}, {0, -253, 0}, {0, MIN + 2, 0}, {1, 65536 + 3, 0}, {1, 32768, -2},
            {1, 256, -2}, {1, -65533, 0}, {2, 65536, -2}, {2, 256, -2}, {2, -1, -2}, {1, -1, -2}, {0, -1, -2}};
        for (int[] of : cut) {
            x.sheet(0, of[0], 2);
            DUE.is("item " + of[1] + " of lane " + of[0], 1, x.item(0, of[0], 0, of[1]));
            DUE.is("it is a key", of[2], x.asked(0, of[0], 0, 1, 0));
        }
    }

    private static void promise27() {
        TellKeys x = withKeys();
        x.sheet(0, 2, 6);
        x.sheet(1, 2, 4);
        Due.fill(x, 0, 2, 1, 2, 3, 4, 5, 6);
        DUE.is("to another one", 3, x.copy(0, 2, 1, 1, 3));
        itemsAre(x, "to another one", 1, 0, 3, 4, 5);
        itemsAre(x, "from it", 0, 1, 2, 3, 4, 5, 6);
        DUE.is("to behind", 4, x.copy(0, 0, 0, 2, 4));
        itemsAre(x, "to behind", 0, 1, 2, 1, 2, 3, 4);
    }

    private static void promise27Ahead() {
        TellKeys x = withKeys();
        x.sheet(0, 2, 6);
        x.sheet(1, 2, 4);
        Due.fill(x, 1, 2, 0, 3, 4, 5);
        Due.fill(x, 0, 2, 1, 2, 3, 4, 5, 6);
        DUE.is("to ahead", 5, x.copy(0, 1, 0, 0, 5));
        itemsAre(x, "to ahead", 0, 2, 3, 4, 5, 6, 6);
        DUE.is("to itself", 6, x.copy(0, 0, 0, 0, 6));
        itemsAre(x, "to itself", 0, 2, 3, 4, 5, 6, 6);
        DUE.is("none", 0, x.copy(0, 6, 1, 4, 0));
        itemsAre(x, "none", 1, 0, 3, 4, 5);
        for (int lane = 0; lane < 2; lane++) {
            x.sheet(0, lane, 3);
            x.sheet(1, lane, 3);
            Due.fill(x, 0, lane, 4, 100, 2);
            DUE.is("lane " + lane, 2, x.copy(0, 0, 1, 1, 2));
            DUE.is("lane " + lane + " has come", 0, x.asked(1, lane, 1, 1, 0));
            DUE.is("lane " + lane + " ahead is 0, a day behind", 0, x.asked(1, lane, 0, 1, 0));
        }
    }

    private static void promise27Refusals() {
        TellKeys x = withKeys();
        x.sheet(0, 2, 6);
        x.sheet(1, 2, 4);
        x.sheet(2, 1, 4);
        int[][] bad = {{-1, 0}, {4, 0}, {0, -1}, {0, 4}, {3, 4}, {MAX, 0}, {0, MIN}};
        for (int[] of : bad) {
            DUE.is("copy " + of[0] + " to " + of[1], BAD, x.copy(of[0], -1, of[1], -1, -1));
        }
        DUE.is("nothing to copy from", NULL, x.copy(3, -1, 0, 0, 0));
        DUE.is("nothing to copy to", NULL, x.copy(0, -1, 3, 0, 0));
        DUE.is("unlike lanes", CAST, x.copy(0, -1, 2, 0, 0));
        DUE.is("unlike lanes, the other way", CAST, x.copy(2, 0, 0, 0, -1));
        int[][] outside = {{0, 0, -1}, {-1, 0, 0}, {0, -1, 0}, {7, 0, 0}, {0, 5, 0}, {-1, 0, 1}, {0, -1, 1}, {6, 0, 1},
            {0, 4, 1}, {2, 0, 5}, {0, 0, 5}, {0, 1, 4}, {3, 0, 4}, {MAX, 0, 1}, {0, MAX, 1}, {0, 0, MAX}, {1, 1, MAX},
            {0, 0, MIN}, {MIN, 0, 0}, {0, MIN, 0}, {MAX, MAX, MAX}, {MIN, MIN, MIN}};
        for (int[] of : outside) {
            DUE.is("copy " + of[0] + " " + of[1] + " " + of[2], INDEX, x.copy(0, of[0], 1, of[1], of[2]));
        }
        itemsAre(x, "nothing came of them", 1, 0, 0, 0, 0);
        DUE.is("all of the smaller one", 4, x.copy(0, 2, 1, 0, 4));
    }
}
