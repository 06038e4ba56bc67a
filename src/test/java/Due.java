/** Counts the answers of one test, and prints each that is not the one that is due. */
final class Due {
    private final String test;
    private int right = 0;
    private int wrong = 0;

    Due(String test) {
        this.test = test;
    }

    void is(String call, long want, long got) {
        if (want == got) {
            right++;
        } else {
            wrong++;
            System.out.println(test + ": " + call + " answered " + got + ", due is " + want);
        }
    }

    long answers() {
        return right + wrong;
    }

    void holds(String what, boolean so) {
        is(what, 1, so ? 1 : 0);
    }

    /** Ends the test; one that asked nothing has failed, too. */
    void end() {
        System.out.println(test + ": " + right + " as due, " + wrong + " not");
        if (wrong != 0 || right == 0) {
            System.exit(1);
        }
    }

    /** Types a text of up to 160 bytes onto THE TAPE. */
    static void type(TellKeys x, String text) {
        for (int at = 0; at < text.length(); at += 8) {
            String part = text.substring(at, Math.min(at + 8, text.length()));
            x.type(word(part), part.length());
        }
    }

    /** A text of up to 8 bytes as a number, the first byte the highest. */
    static long word(String text) {
        long word = 0;
        for (char sign : text.toCharArray()) {
            word = word << 8 | sign;
        }
        return word;
    }

    static int house(TellKeys x, String text) {
        type(x, text);
        return x.house();
    }

    static int week(TellKeys x, String text) {
        type(x, text);
        return x.week();
    }

    /** Items of a sheet, from its first one on. */
    static void fill(TellKeys x, int sheet, int lane, int... items) {
        for (int i = 0; i < items.length; i++) {
            x.item(sheet, lane, i, items[i]);
        }
    }
}
