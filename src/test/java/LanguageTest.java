import java.io.IOException;
import java.nio.file.Files;
import java.nio.file.Path;
import java.util.ArrayList;
import java.util.List;
import java.util.Set;
import java.util.TreeSet;
import java.util.regex.Matcher;
import java.util.regex.Pattern;

/** The rules of LANGUAGE.md that the program's text shows by itself; run from the project's root. */
public final class LanguageTest {
    private static final String FACE = " group of times power conjugate span subgroup normal centre handles period drop periodOf map row"
        + " genus fixed left behind move classes classOf member apart found keep use empty like unlike image back count ";
    private static int wrong = 0;

    private static void fail(String rule, String what) {
        wrong++;
        System.out.println("rule " + rule + ": " + what);
    }

    public static void main(String[] args) throws IOException {
        String text = Files.readString(Path.of("src/main/java/TurningGroups.java"));
        String code = text.replaceAll("(?s)/\\*.*?\\*/", "").replaceAll("//[^\n]*", "");
        String[] lines = code.split("\n");
        forbiddenWords(code);
        theFace();
        methodLengths(lines);
        newOnlyInConstructors(lines);
        theTree(SourceTree.of(Path.of("src/main/java/TurningGroups.java")));
        for (char sign : text.toCharArray()) {
            if (sign > 126) {
                fail("3", "a sign beyond 126");
            }
        }
        System.out.println(wrong == 0 ? "the rules are kept" : wrong + " rules are broken");
        if (wrong != 0) {
            System.exit(1);
        }
    }

    private static void forbiddenWords(String code) {
        String[] words = {"\\bthrow\\b", "\\btry\\b", "\\bcatch\\b", "\\bsynchronized\\b", "\\bassert\\b", "->", "::",
            "\\bimport (?!java\\.util\\.Arrays;)", "\\bpackage\\b", "\\bstatic \\{", "Exact\\b", "\\bvar\\b", "\\bhashCode\\b",
            "\\btoString\\b", "\\bequals\\b", "\\bSystem\\.(?!arraycopy\\b)", "\\bprotected\\b", "\\bvolatile\\b",
            "\\bstatic (?!final |int\\b|boolean\\b)", "\\bprivate static int\\[?\\]? \\w+ ?[;=]"};
        for (String word : words) {
            Matcher found = Pattern.compile(word).matcher(code);
            if (found.find()) {
                fail("1 to 13", "found " + found.group() + " by " + word);
            }
        }
    }

    /** Nothing but the document's face and classes inside may be seen from outside. */
    private static void theFace() {
        for (java.lang.reflect.Method method : TurningGroups.class.getDeclaredMethods()) {
            boolean open = !java.lang.reflect.Modifier.isPrivate(method.getModifiers());
            if (open != FACE.contains(" " + method.getName() + " ")) {
                fail("1", "method " + method.getName());
            }
        }
        for (java.lang.reflect.Field field : TurningGroups.class.getDeclaredFields()) {
            boolean open = !java.lang.reflect.Modifier.isPrivate(field.getModifiers());
            if (open != " NONE BAD STATE FULL ".contains(" " + field.getName() + " ")) {
                fail("1", "field " + field.getName());
            }
        }
        int count = TurningGroups.class.getDeclaredClasses().length + 1;
        if (count > 12) {
            fail("11", count + " classes");
        }
    }

    private static void methodLengths(String[] lines) {
        int start = -1;
        for (int i = 0; i < lines.length; i++) {
            if (lines[i].matches(" {4}(private|public) .*\\) \\{") || lines[i].matches(" {8}\\w.*\\) \\{")) {
                start = i;
            }
            if (start >= 0 && lines[i].matches(lines[start].replaceAll("\\S.*", "") + "\\}")) {
                if (i - start > 60) {
                    fail("11", "a long method: " + lines[start].trim());
                }
                start = -1;
            }
        }
    }

    /** A call makes no object: all are made with the object itself. */
    private static void newOnlyInConstructors(String[] lines) {
        List<String> open = new ArrayList<>();
        boolean inConstructor = false;
        for (String line : lines) {
            if (line.matches(" +(public )?[A-Z]\\w*\\(.*\\) \\{")) {
                inConstructor = true;
            } else if (line.matches(" +.*\\b(int|boolean|void)\\b.*\\) \\{")) {
                inConstructor = false;
            }
            boolean field = line.matches(" +private final int\\[\\] \\w+ = new int\\[[A-Z_* ]+\\];");
            if (line.matches(".*\\bnew\\b.*") && !field && !inConstructor) {
                open.add(line.trim());
            }
        }
        for (String line : open) {
            fail("12", "made in a call: " + line);
        }
    }

    /** What the compiler sees: kinds of code, types, the library's calls, how deep calls go, how much a class holds. */
    private static void theTree(SourceTree tree) {
        none("2, 6", tree.kinds, Set.of("LAMBDA_EXPRESSION", "MEMBER_REFERENCE", "THROW", "TRY", "CATCH", "ASSERT",
            "SYNCHRONIZED", "PACKAGE", "ANNOTATION", "STRING_LITERAL", "TYPE_CAST", "DOUBLE_LITERAL", "FLOAT_LITERAL"));
        TreeSet<String> types = new TreeSet<>(tree.types);
        types.removeIf(type -> type.matches("int|boolean|int\\[\\]|TurningGroups\\.\\w+"));
        none("3", types, types);
        TreeSet<String> calls = new TreeSet<>(tree.libraryCalls);
        calls.removeAll(Set.of("Arrays.fill", "System.arraycopy", "Math.max", "Math.min", "Integer.bitCount"));
        none("4", calls, calls);
        for (String method : tree.ownCalls.keySet()) {
            String[] words = method.split("\\.");
            if (!words[0].equals("TurningGroups") && FACE.contains(" " + words[1] + " ")) {
                fail("1", method + " bears the name of a call");
            }
            if (tree.depthFrom(method) > 8) {
                fail("8, 11", "calls from " + method + " go " + tree.depthFrom(method) + " deep");
            }
            if (tree.parameters.getOrDefault(method, 0) > 7) {
                fail("11", "too many parameters of " + method);
            }
        }
        for (String name : tree.fields.keySet()) {
            if (tree.fields.get(name) > 20) {
                fail("11", "too many fields of " + name);
            }
        }
    }

    private static void none(String rule, Set<String> there, Set<String> forbidden) {
        for (String word : forbidden) {
            if (there.contains(word)) {
                fail(rule, "found " + word);
            }
        }
    }
}
