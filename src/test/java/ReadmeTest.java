import java.io.IOException;
import java.lang.reflect.Field;
import java.nio.file.Files;
import java.nio.file.Path;
import java.nio.file.StandardCopyOption;
import java.util.ArrayList;
import java.util.List;
import java.util.TreeSet;
import java.util.regex.Matcher;
import java.util.regex.Pattern;
import java.util.stream.Stream;

/** README.md is so when done as written; run where README.md is, by .ci/run, which makes build/own. */
public final class ReadmeTest {
    private static final Path PROGRAM = Path.of("src/main/java/TellKeys.java");
    private static final Path PLACE = Path.of("build/readme");

    public static void main(String[] args) throws IOException, InterruptedException {
        Due due = new Due("ReadmeTest");
        String page = Files.readString(Path.of("README.md"));
        List<String> programs = blocks(page, "java");
        List<String> commands = blocks(page, "sh");
        due.is("programs shown", 1, programs.size());
        due.is("commands shown", 3, commands.size());
        if (programs.size() == 1 && commands.size() == 3) {
            example(due, programs.get(0), commands.get(0));
            testCommands(due, commands.get(1).strip(), commands.get(2).strip());
        }
        refusals(due, page);
        tests(due, page);
        due.end();
    }

    private static List<String> blocks(String page, String language) {
        List<String> found = new ArrayList<>();
        Matcher block = Pattern.compile("(?ms)^```" + language + "\\n(.*?)^```$").matcher(page);
        while (block.find()) {
            found.add(block.group(1));
        }
        return found;
    }

    /** What the example prints is what its comments say, in a copy of this folder that has no more than it needs. */
    private static void example(Due due, String program, String commands) throws IOException, InterruptedException {
        Path copy = PLACE.resolve(PROGRAM);
        Files.createDirectories(copy.getParent());
        Files.copy(PROGRAM, copy, StandardCopyOption.REPLACE_EXISTING);
        Files.writeString(PLACE.resolve("Use.java"), program);
        List<String> lines = new ArrayList<>();
        due.is("the example's commands", 0, run(PLACE, commands, lines));
        int at = 0;
        Matcher call = Pattern.compile("print\\((x\\..*)\\);(.*)").matcher(program);
        while (call.find()) {
            Matcher said = Pattern.compile("\\s+// (-?\\d+)(:.*)?").matcher(call.group(2));
            String printed = at < lines.size() ? lines.get(at) : "nothing";
            boolean so = said.matches() && said.group(1).equals(printed);
            due.holds("README.md: " + call.group(1) + " printed " + printed + ", said is" + call.group(2), so);
            at++;
        }
        due.is("lines that the example prints", at, lines.size());
    }

    /** The run of all tests is this one, so it can't be done here: it must be there, and what it is said to make. */
    private static void testCommands(Due due, String all, String one) throws IOException, InterruptedException {
        due.holds(all + " can be run", Files.isExecutable(Path.of(all)));
        List<String> lines = new ArrayList<>();
        due.is(one, 0, run(Path.of("."), one, lines));
        String last = lines.isEmpty() ? "nothing" : lines.get(lines.size() - 1);
        due.holds("a test alone says how it went: " + last, last.endsWith(" as due, 0 not"));
    }

    private static int run(Path place, String commands, List<String> lines) throws IOException, InterruptedException {
        ProcessBuilder shell = new ProcessBuilder("sh", "-e", "-c", commands);
        Process process = shell.directory(place.toFile()).redirectErrorStream(true).start();
        process.inputReader().lines().forEach(lines::add);
        return process.waitFor();
    }

    private static void refusals(Due due, String page) {
        TreeSet<String> told = new TreeSet<>();
        for (Field field : TellKeys.class.getFields()) {
            told.add(field.getName() + " " + valueOf(field));
        }
        TreeSet<String> said = new TreeSet<>();
        Matcher row = Pattern.compile("(?m)^\\| `(\\w+)` (-\\d+) \\|").matcher(page);
        while (row.find()) {
            said.add(row.group(1) + " " + row.group(2));
        }
        due.holds("the refusals are those of the class: " + said, said.equals(told));
    }

    private static int valueOf(Field field) {
        try {
            return field.getInt(null);
        } catch (IllegalAccessException refused) {
            return 0;
        }
    }

    private static void tests(Due due, String page) throws IOException {
        TreeSet<String> there = new TreeSet<>();
        try (Stream<Path> files = Files.list(Path.of("src/test/java"))) {
            files.map(file -> file.getFileName().toString()).filter(name -> name.endsWith("Test.java"))
                .forEach(name -> there.add(name.substring(0, name.length() - ".java".length())));
        }
        TreeSet<String> said = new TreeSet<>();
        Matcher row = Pattern.compile("(?m)^\\| (`\\w+Test`(?:, `\\w+Test`)*) \\|").matcher(page);
        while (row.find()) {
            for (String name : row.group(1).split(", ")) {
                said.add(name.substring(1, name.length() - 1));
            }
        }
        due.holds("the tests are those that are there: " + said + " and " + there, said.equals(there));
    }
}
