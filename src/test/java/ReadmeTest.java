import java.io.IOException;
import java.nio.file.Files;
import java.nio.file.Path;
import java.util.List;
import java.util.TreeSet;
import java.util.regex.Matcher;
import java.util.regex.Pattern;
import java.util.stream.Stream;

/** README.md says what is so: its calls answer as it tells, and it names all calls and all tests. */
public final class ReadmeTest {
    private static final String NEW_OBJECT = "TurningGroups x = new TurningGroups();";
    private static final Pattern CALL = Pattern.compile("x\\.(\\w+)\\(([-\\d, ]*)\\); +// (-?\\d+)\\b.*");

    private static int wrong = 0;

    private static void fail(String what) {
        wrong++;
        System.out.println(what);
    }

    public static void main(String[] args) throws IOException {
        List<String> lines = Files.readAllLines(Path.of("README.md"));
        int calls = examples(lines);
        if (calls == 0) {
            fail("no example");
        }
        callsAreNamed(lines);
        testsAreNamed(String.join("\n", lines));
        System.out.println(calls + " calls: " + (wrong == 0 ? "README.md is right" : wrong + " faults in README.md"));
        if (wrong != 0) {
            System.exit(1);
        }
    }

    /** Makes the calls of each piece of Java; how many there are. */
    private static int examples(List<String> lines) {
        Calls x = null;
        boolean inJava = false;
        int calls = 0;
        for (String line : lines) {
            if (line.startsWith("```")) {
                inJava = line.equals("```java");
                x = null;
            } else if (inJava && line.equals(NEW_OBJECT)) {
                x = Calls.ofProgram();
            } else if (inJava) {
                oneCall(x, line);
                calls++;
            }
        }
        return calls;
    }

    private static void oneCall(Calls x, String line) {
        Matcher call = CALL.matcher(line);
        if (x == null || !call.matches()) {
            fail("no call with its answer: " + line);
            return;
        }
        String[] words = call.group(2).isEmpty() ? new String[0] : call.group(2).split(", ");
        int[] numbers = new int[words.length];
        for (int i = 0; i < words.length; i++) {
            numbers[i] = Integer.parseInt(words[i]);
        }
        int got = x.answer(call.group(1), numbers);
        if (got != Integer.parseInt(call.group(3))) {
            fail("answered " + got + ": " + line);
        }
    }

    /** The first column of the table names just the calls of the class. */
    private static void callsAreNamed(List<String> lines) {
        TreeSet<String> named = new TreeSet<>();
        for (String line : lines) {
            if (line.startsWith("| `")) {
                Matcher word = Pattern.compile("`(\\w+)`").matcher(line.substring(0, line.indexOf('|', 1)));
                while (word.find()) {
                    named.add(word.group(1));
                }
            }
        }
        TreeSet<String> there = new TreeSet<>();
        for (java.lang.reflect.Method method : TurningGroups.class.getMethods()) {
            if (method.getDeclaringClass() == TurningGroups.class) {
                there.add(method.getName());
            }
        }
        if (!named.equals(there)) {
            fail("the table names " + named + ", there are " + there);
        }
    }

    private static void testsAreNamed(String text) throws IOException {
        try (Stream<Path> files = Files.list(Path.of("src/test/java"))) {
            for (String file : files.map(path -> path.getFileName().toString()).sorted().toList()) {
                if (!text.contains("`" + file.replace(".java", "") + "`")) {
                    fail("does not name " + file);
                }
            }
        }
    }
}
