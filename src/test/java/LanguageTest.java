import java.io.IOException;
import java.nio.file.Files;
import java.nio.file.Path;
import java.util.regex.Matcher;
import java.util.regex.Pattern;

/** Those rules of ../shared/LANGUAGE.md that can be seen from the program's text; run where src/ is. */
public final class LanguageTest {
    private static final String[] SHUT_OUT = {
        "throw", "throws", "try", "catch", "finally", "synchronized", "assert", "import", "package", "protected",
        "volatile", "transient", "native", "yield", "var", "System\\.(?!arraycopy)", "Thread", "Random", "\\w+Exact",
        "equals", "hashCode", "toString", "->", "::", "goto", "strictfp"};

    public static void main(String[] args) throws IOException {
        Due due = new Due("LanguageTest");
        String source = Files.readString(Path.of("src/main/java/TellKeys.java"));
        for (char sign : source.toCharArray()) {
            if (sign != '\n' && (sign < 32 || sign > 126)) {
                due.holds("only plain signs", false);
            }
        }
        String code = source.replaceAll("(?s)/\\*.*?\\*/", " ").replaceAll("//[^\\n]*", " ").replaceAll("'.'", "0");
        for (String word : SHUT_OUT) {
            String whole = Character.isLetter(word.charAt(0)) ? "\\b" + word + "\\b" : word;
            if (word.startsWith("System")) {
                whole = "\\b" + word;
            }
            due.holds("no " + word, !Pattern.compile(whole).matcher(code).find());
        }
        staticFields(due, code);
        counts(due, code);
        due.end();
    }

    private static void staticFields(Due due, String code) {
        Matcher fields = Pattern.compile("static [^;{(]*[;=]").matcher(code);
        while (fields.find()) {
            due.holds("final: " + fields.group(), fields.group().contains("static final"));
        }
    }

    private static void counts(Due due, String code) {
        Matcher classes = Pattern.compile("\\bclass \\w+").matcher(code);
        int found = 0;
        while (classes.find()) {
            found++;
        }
        due.holds("some twelve classes: " + found, found <= 12);
        int since = 0;
        int longest = 0;
        for (String line : code.split("\n")) {
            boolean starts = line.matches("\\s+[\\w\\[\\] ]+\\([\\w\\[\\], ]*\\) \\{") && !line.contains(" else ");
            since = starts || line.isBlank() ? 0 : since + 1;
            longest = Math.max(longest, since);
        }
        due.holds("no method has more than some sixty lines: " + longest, longest <= 60);
        Matcher parameters = Pattern.compile("\\((int|long|boolean)? \\w+(, \\w+ \\w+){7,}\\)").matcher(code);
        due.holds("no more than seven parameters", !parameters.find());
    }
}
