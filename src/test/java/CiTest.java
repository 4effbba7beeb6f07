import java.io.IOException;
import java.nio.charset.StandardCharsets;
import java.nio.file.Files;
import java.nio.file.Path;
import java.nio.file.StandardCopyOption;
import java.util.Comparator;
import java.util.List;
import java.util.concurrent.atomic.AtomicInteger;
import java.util.stream.Stream;

/**
 * The script .ci/run in small projects beside a small shared, run from the project's root: it runs all
 * tests that there are, and fails if one fails. None of these projects holds this test.
 */
public final class CiTest {
    private static final String GOOD = "System.out.println(new TurningGroups().count(0) + \" from NAME\");";
    private static final String READS = "int all = 0; while (System.in.read() >= 0) { all++; } " + GOOD;
    private static final String FAILS = GOOD + " System.exit(1);";
    private static final String THROWS = GOOD + " throw new IllegalStateException();";
    private static final String BROKEN = GOOD + " no Java;";

    private static final AtomicInteger WRONG = new AtomicInteger();

    /** A project with one test, a shared with A, B and, in a directory of its own, C; an empty text: none. */
    private record Project(String what, int exit, List<String> ran, String first, String a, String b, String c) {
        void check() {
            try {
                Path room = Files.createTempDirectory("ci");
                try {
                    checkIn(room);
                } finally {
                    remove(room);
                }
            } catch (IOException | InterruptedException e) {
                throw new IllegalStateException(what, e);
            }
        }

        private void checkIn(Path room) throws IOException, InterruptedException {
            Path project = room.resolve("main");
            copy(".ci/run", project);
            copy("src/main/java/TurningGroups.java", project);
            write(project.resolve("src/test/java/FirstTest.java"), first);
            write(room.resolve("shared/tests/A.java"), a);
            write(room.resolve("shared/tests/B.java"), b);
            write(room.resolve("shared/tests/deeper/C.java"), c);
            run(what, project, exit, ran);
        }
    }

    public static void main(String[] args) {
        List<String> all = List.of("FirstTest", "A", "B", "C");
        // Side by side, because each compiles four tests.
        List.of(
            new Project("all that there are", 0, all, GOOD, GOOD, GOOD, GOOD),
            new Project("one that reads what it is given", 0, all, READS, READS, GOOD, GOOD),
            new Project("one of shared that fails", 1, all, GOOD, FAILS, GOOD, GOOD),
            new Project("the last one of shared that throws", 1, all, GOOD, GOOD, GOOD, THROWS),
            new Project("one of shared that is no Java", 1, List.of("FirstTest", "A", "C"), GOOD, GOOD, BROKEN, GOOD),
            new Project("one of the project that fails", 1, all, FAILS, GOOD, GOOD, GOOD),
            new Project("none in shared", 1, List.of(), GOOD, "", "", ""),
            new Project("none in the project", 1, List.of("A", "B", "C"), "", GOOD, GOOD, GOOD)
        ).parallelStream().forEach(Project::check);
        System.out.println(WRONG.get() == 0 ? ".ci/run runs what it must" : WRONG.get() + " faults of .ci/run");
        if (WRONG.get() != 0) {
            System.exit(1);
        }
    }

    private static void copy(String file, Path project) throws IOException {
        Path there = project.resolve(file);
        Files.createDirectories(there.getParent());
        Files.copy(Path.of(file), there, StandardCopyOption.COPY_ATTRIBUTES);
    }

    private static void write(Path file, String body) throws IOException {
        Files.createDirectories(file.getParent());
        if (!body.isEmpty()) {
            String name = file.getFileName().toString().replace(".java", "");
            Files.writeString(file, "public class " + name + " { public static void main(String[] args) throws Exception { "
                + body.replace("NAME", name) + " } }\n");
        }
    }

    private static void run(String what, Path project, int exit, List<String> ran) throws IOException, InterruptedException {
        Process process = new ProcessBuilder(project.resolve(".ci/run").toString()).redirectErrorStream(true).start();
        process.getOutputStream().close();
        String said = new String(process.getInputStream().readAllBytes(), StandardCharsets.UTF_8);
        int got = process.waitFor();
        List<String> from = said.lines().filter(line -> line.startsWith("1 from ")).map(line -> line.substring(7)).toList();
        if ((got == 0) != (exit == 0) || !from.equals(ran)) {
            WRONG.incrementAndGet();
            System.out.println(what + ": exit " + got + ", ran " + from + ", due are exit " + exit + ", " + ran + "\n" + said);
        }
    }

    private static void remove(Path room) throws IOException {
        try (Stream<Path> all = Files.walk(room)) {
            for (Path path : all.sorted(Comparator.reverseOrder()).toList()) {
                Files.delete(path);
            }
        }
    }
}
