import java.io.IOException;
import java.nio.file.Files;
import java.nio.file.Path;
import java.util.LinkedHashMap;
import java.util.Map;

/**
 * Answers due by one sentence of the document each. A sentence that the document does not say at that place has
 * failed, as has one of which nothing was asked, and a promise that names a refusal of which no sentence was taken.
 */
final class Sentences {
    private static final String[] REFUSALS = {"BAD", "NOT", "FULL", "NONE", "NULL", "CAST", "INDEX", "SIZE"};

    private final Due due;
    private final String document;
    private final Map<Integer, StringBuilder> taken = new LinkedHashMap<>();
    private String sentence = null;
    private long answersBefore = 0;

    Sentences(String test) throws IOException {
        due = new Due(test);
        document = plain(Files.readString(Path.of("../shared/DOC.md")));
    }

    private static String plain(String text) {
        return text.replace("```text", " ").replace("```", " ").replaceAll("\\s+", " ");
    }

    void terms(String said) {
        begin("Terms", said);
    }

    void promise(int number, String said) {
        begin("Promise " + number + ": ", said);
        taken.computeIfAbsent(number, n -> new StringBuilder()).append(said).append(' ');
    }

    void begin(String heading, String said) {
        close();
        sentence = said;
        due.holds("\"" + said + "\" stands under " + heading, partOf(heading).contains(said));
        answersBefore = due.answers();
    }

    private String partOf(String heading) {
        int start = document.indexOf("## " + heading);
        int end = document.indexOf("## ", start + 3);
        return start < 0 ? "" : document.substring(start, end < 0 ? document.length() : end);
    }

    private void close() {
        if (sentence != null) {
            due.holds("something was asked of \"" + sentence + "\"", due.answers() > answersBefore);
        }
    }

    void is(String call, long want, long got) {
        due.is("\"" + sentence + "\": " + call, want, got);
    }

    void holds(String what, boolean so) {
        due.holds("\"" + sentence + "\": " + what, so);
    }

    /**
     * One number of a call after the other, the rest as in good: its bounds are not BAD, what is just outside them and
     * what is far off is. Bounds come as pairs, the low one first.
     */
    void bad(TellKeys x, String call, int[] good, int... bounds) {
        is(call + " has bounds for all", 2 * good.length, bounds.length);
        badAhead(x, call, good, bounds);
    }

    /** The same of the first numbers of a call, as many as have bounds. */
    void badAhead(TellKeys x, String call, int[] good, int... bounds) {
        for (int p = 0; p < bounds.length / 2; p++) {
            int low = bounds[2 * p];
            int high = bounds[2 * p + 1];
            for (int number : new int[] {low - 1, high + 1, Integer.MIN_VALUE, Integer.MAX_VALUE}) {
                is(call + ", number " + p + " is " + number, TellKeys.BAD, ask(x, call, good, p, number));
            }
            for (int number : new int[] {low, high}) {
                holds(call + ", number " + p + " may be " + number, ask(x, call, good, p, number) != TellKeys.BAD);
            }
        }
    }

    private static int ask(TellKeys x, String call, int[] good, int p, int number) {
        Class<?>[] types = new Class<?>[good.length];
        Object[] numbers = new Object[good.length];
        for (int i = 0; i < good.length; i++) {
            types[i] = int.class;
            numbers[i] = i == p ? number : good[i];
        }
        try {
            return (int) TellKeys.class.getMethod(call, types).invoke(x, numbers);
        } catch (ReflectiveOperationException thrown) {
            throw new IllegalStateException(call, thrown);
        }
    }

    void end() {
        close();
        for (Map.Entry<Integer, StringBuilder> of : taken.entrySet()) {
            String promise = partOf("Promise " + of.getKey() + ": ");
            for (String refusal : REFUSALS) {
                due.holds("promise " + of.getKey() + ": " + refusal + " has a test",
                    !promise.contains(refusal) || of.getValue().indexOf(refusal) >= 0);
            }
        }
        due.end();
    }

    /** Of the promises first to last each one must have been taken. */
    void endOf(int first, int last) {
        for (int number = first; number <= last; number++) {
            due.holds("promise " + number + " has tests", taken.containsKey(number));
        }
        end();
    }
}
