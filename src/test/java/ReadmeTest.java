import java.io.File;
import java.io.IOException;
import java.lang.reflect.Method;
import java.lang.reflect.Modifier;
import java.nio.file.Files;
import java.nio.file.Path;
import java.util.ArrayList;
import java.util.List;
import java.util.Set;
import java.util.TreeSet;
import java.util.regex.Matcher;
import java.util.regex.Pattern;

/** README.md: its program answers what it tells, its tables have every call and every test. */
public final class ReadmeTest {
    private static final Path CLASS = Path.of("src/main/java/IceForCoast.java");

    public static void main(String[] args) throws IOException, InterruptedException {
        String page = Files.readString(Path.of("README.md"));
        program(page);
        calls(page);
        refusals(page);
        tests(page);
        sharedTests(page);
        Check.end();
    }

    private static List<String> all(String page, String pattern) {
        List<String> found = new ArrayList<>();
        Matcher m = Pattern.compile(pattern).matcher(page);
        while (m.find()) {
            found.add(m.group(1));
        }
        return found;
    }

    /** Each show(..) of the program prints the number that the comment behind it begins with. */
    private static void program(String page) throws IOException, InterruptedException {
        String code = String.join("\n", all(page, "(?s)```java\n(.*?)```"));
        List<String> due = all(code, "show\\(ice\\..*; +// (-?\\d+): ");
        Check.holds("the program shows something", due.size() > 20);
        Check.due("each show() has a comment", all(code, "(show\\(ice\\.)").size(), due.size());
        List<String> shown = shownBy(code);
        Check.due("answers that the program shows", shown.size(), due.size());
        for (int i = 0; i < Math.min(shown.size(), due.size()); i++) {
            Check.holds("show() " + i + " shows " + shown.get(i) + " as told: " + due.get(i),
                shown.get(i).equals(due.get(i)));
        }
    }

    private static List<String> shownBy(String code) throws IOException, InterruptedException {
        Path room = Files.createTempDirectory("coast");
        Path program = room.resolve("Coast.java");
        Path shown = room.resolve("shown");
        Files.writeString(program, code);
        run(shown, "javac", "--release", "17", "-d", room.toString(), CLASS.toString(), program.toString());
        run(shown, "java", "-cp", room.toString(), "Coast");
        List<String> lines = Files.readAllLines(shown);
        for (File file : room.toFile().listFiles()) {
            Files.delete(file.toPath());
        }
        Files.delete(room);
        return lines;
    }

    private static void run(Path shown, String... command) throws IOException, InterruptedException {
        Process process = new ProcessBuilder(command).redirectErrorStream(true).redirectOutput(shown.toFile()).start();
        Check.due(String.join(" ", command) + " ends with", process.waitFor(), 0);
    }

    /** Each public method has a place in the table of refusals, with as many arguments as it takes. */
    private static void calls(String page) {
        for (Method method : IceForCoast.class.getDeclaredMethods()) {
            if (!Modifier.isPublic(method.getModifiers())) {
                continue;
            }
            List<String> rows = all(page, "(?m)^\\| (?:`\\w+\\(\\)`, )?`" + method.getName() + "\\(([^)]*)\\)`.* \\|$");
            Check.due(method.getName() + " in the table", rows.size(), 1);
            for (String arguments : rows) {
                int many = arguments.isEmpty() ? 0 : arguments.split(",").length;
                Check.due(method.getName() + " takes", method.getParameterCount(), many);
            }
        }
    }

    private static void refusals(String page) {
        int[] numbers = {IceForCoast.UNKNOWN, IceForCoast.OUTSIDE, IceForCoast.STATE, IceForCoast.FULL, IceForCoast.NONE};
        String[] names = {"UNKNOWN", "OUTSIDE", "STATE", "FULL", "NONE"};
        for (int i = 0; i < names.length; i++) {
            boolean byTow = !names[i].equals("STATE") && !names[i].equals("FULL");
            String far = byTow ? String.valueOf(numbers[i] - 100000) : "-";
            Check.holds(names[i] + " by tow, best and by all others",
                page.contains("| `" + names[i] + "` | " + far + " | " + numbers[i] + " | "));
        }
    }

    /** The table of tests names those that .ci/run runs, and no others. */
    private static void tests(String page) {
        Set<String> there = new TreeSet<>();
        for (String name : Path.of("src/test/java").toFile().list()) {
            if (name.endsWith("Test.java")) {
                there.add(name.substring(0, name.length() - ".java".length()));
            }
        }
        Set<String> told = new TreeSet<>(all(page, "(?m)^\\| `(\\w+Test)` \\|"));
        Check.holds("tests told " + told + " are those there " + there, told.equals(there));
    }

    private static void sharedTests(String page) {
        List<String> told = all(page, "(\\.\\./shared/tests/\\w+\\.java)");
        Check.holds("a shared test is told", !told.isEmpty());
        for (String file : told) {
            Check.holds(file + " is there", Files.exists(Path.of(file)));
        }
    }
}
