/** Counts the answers of one test, and prints each that is not the one that is due. */
final class Due {
    private final String test;
    private int right = 0;
    private int wrong = 0;

    Due(String test) {
        this.test = test;
    }

    void is(String call, long want, long got) {
        if (want == got) {
            right++;
        } else {
            wrong++;
            System.out.println(test + ": " + call + " answered " + got + ", due is " + want);
        }
    }

    long answers() {
        return right + wrong;
    }

    void holds(String what, boolean so) {
        is(what, 1, so ? 1 : 0);
    }

    /** Ends the test; one that asked nothing has failed, too. */
    void end() {
        System.out.println(test + ": " + right + " as due, " + wrong + " not");
        if (wrong != 0 || right == 0) {
            System.exit(1);
        }
    }

    /** Types a text of up to 160 bytes onto THE TAPE. */
    static void type(TellKeys x, String text) {
        for (int at = 0; at < text.length(); at += 8) {
            String part = text.substring(at, Math.min(at + 8, text.length()));
            x.type(word(part), part.length());
        }
    }

    /** A text of up to 8 bytes as a number, the first byte the highest. */
    static long word(String text) {
        long word = 0;
        for (char sign : text.toCharArray()) {
            word = word << 8 | sign;
        }
        return word;
    }

    static int house(TellKeys x, String text) {
        type(x, text);
        return x.house();
    }

    static int week(TellKeys x, String text) {
        type(x, text);
        return x.week();
    }

    /** Items of a sheet, from its first one on. */
    static void fill(TellKeys x, int sheet, int lane, int... items) {
        for (int i = 0; i < items.length; i++) {
            x.item(sheet, lane, i, items[i]);
        }
    }

    /** A house, and keys that tell, all of them of a sister. */
    static TellKeys with(String house, int sister, int... kinds) {
        TellKeys x = new TellKeys();
        house(x, house);
        for (int i = 0; i < kinds.length; i++) {
            x.key(kinds[i], 1);
            x.change(i, sister);
        }
        return x;
    }

    /** Goes on to a day, by weeks of 80 days as long as they fit: few calls, as an object has 512. */
    static void goTo(TellKeys x, int day) {
        while (x.count(3) + 80 <= day) {
            week(x, "n;".repeat(79) + "n");
        }
        while (x.count(3) < day) {
            x.next();
        }
    }

    /**
     * An item of a sheet, if it is the number of a key there is, else -1. It is taken to sheet 3, which is made anew,
     * and asked for beside each key, as no key may come twice.
     */
    static int read(TellKeys x, int sheet, int lane, int i) {
        int today = x.count(3);
        x.sheet(3, lane, 4);
        if (x.copy(sheet, i, 3, 0, 1) != 1) {
            return -1;
        }
        x.item(3, lane, 1, today);
        x.item(3, lane, 3, today);
        if (x.asked(3, lane, 0, 1, -1) == TellKeys.NOT) {
            return -1;
        }
        int keys = x.count(1);
        for (int key = 0; key < keys; key++) {
            x.item(3, lane, 2, key);
            if (x.asked(3, lane, 0, 2, -1) == TellKeys.NOT) {
                return key;
            }
        }
        return -1;
    }

    /** All that can be asked of keys, doors and counts, in one text. */
    static String state(TellKeys x) {
        StringBuilder text = new StringBuilder();
        for (int what = 0; what <= 5; what++) {
            text.append(x.count(what)).append(' ');
        }
        for (int i = x.count(1) * 5 - 1; i >= 0; i--) {
            text.append(x.told(i / 5, i % 5)).append(' ');
        }
        for (int i = x.count(0) * 3 - 1; i >= 0; i--) {
            text.append(x.of(i / 3, i % 3)).append(' ');
        }
        return text.toString();
    }
}
