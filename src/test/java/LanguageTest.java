import java.io.IOException;
import java.nio.file.Files;
import java.nio.file.Path;
import java.util.ArrayList;
import java.util.List;
import java.util.regex.Matcher;
import java.util.regex.Pattern;

/** The rules of LANGUAGE.md that the program's text shows by itself; run from the project's root. */
public final class LanguageTest {
    private static int wrong = 0;

    private static void fail(String rule, String what) {
        wrong++;
        System.out.println("rule " + rule + ": " + what);
    }

    public static void main(String[] args) throws IOException {
        String text = Files.readString(Path.of("src/main/java/TurningGroups.java"));
        String code = text.replaceAll("(?s)/\\*.*?\\*/", "").replaceAll("//[^\n]*", "");
        String[] lines = code.split("\n");
        forbiddenWords(code);
        theFace();
        methodLengths(lines);
        newOnlyInConstructors(lines);
        for (char sign : text.toCharArray()) {
            if (sign > 126) {
                fail("3", "a sign beyond 126");
            }
        }
        System.out.println(wrong == 0 ? "the rules are kept" : wrong + " rules are broken");
        if (wrong != 0) {
            System.exit(1);
        }
    }

    private static void forbiddenWords(String code) {
        String[] words = {"\\bthrow\\b", "\\btry\\b", "\\bcatch\\b", "\\bsynchronized\\b", "\\bassert\\b", "->", "::",
            "\\bimport (?!java\\.util\\.Arrays;)", "\\bpackage\\b", "\\bstatic \\{", "Exact\\b", "\\bvar\\b", "\\bhashCode\\b",
            "\\btoString\\b", "\\bequals\\b", "\\bSystem\\.(?!arraycopy\\b)", "\\bprotected\\b", "\\bvolatile\\b",
            "\\bstatic (?!final |int\\b|boolean\\b)", "\\bprivate static int\\[?\\]? \\w+ ?[;=]"};
        for (String word : words) {
            Matcher found = Pattern.compile(word).matcher(code);
            if (found.find()) {
                fail("1 to 13", "found " + found.group() + " by " + word);
            }
        }
    }

    /** Nothing but the document's face and classes inside may be seen from outside. */
    private static void theFace() {
        String methods = " group of times power conjugate span subgroup normal centre handles period drop periodOf map row"
            + " genus fixed left behind move classes classOf member apart found keep use empty like unlike image back count ";
        for (java.lang.reflect.Method method : TurningGroups.class.getDeclaredMethods()) {
            boolean open = !java.lang.reflect.Modifier.isPrivate(method.getModifiers());
            if (open != methods.contains(" " + method.getName() + " ")) {
                fail("1", "method " + method.getName());
            }
        }
        for (java.lang.reflect.Field field : TurningGroups.class.getDeclaredFields()) {
            boolean open = !java.lang.reflect.Modifier.isPrivate(field.getModifiers());
            if (open != " NONE BAD STATE FULL ".contains(" " + field.getName() + " ")) {
                fail("1", "field " + field.getName());
            }
        }
        int count = TurningGroups.class.getDeclaredClasses().length + 1;
        if (count > 12) {
            fail("11", count + " classes");
        }
    }

    private static void methodLengths(String[] lines) {
        int start = -1;
        for (int i = 0; i < lines.length; i++) {
            if (lines[i].matches(" {4}(private|public) .*\\) \\{") || lines[i].matches(" {8}\\w.*\\) \\{")) {
                start = i;
            }
            if (start >= 0 && lines[i].matches(lines[start].replaceAll("\\S.*", "") + "\\}")) {
                if (i - start > 60) {
                    fail("11", "a long method: " + lines[start].trim());
                }
                start = -1;
            }
        }
    }

    /** A call makes no object: all are made with the object itself. */
    private static void newOnlyInConstructors(String[] lines) {
        List<String> open = new ArrayList<>();
        boolean inConstructor = false;
        for (String line : lines) {
            if (line.matches(" +(public )?[A-Z]\\w*\\(.*\\) \\{")) {
                inConstructor = true;
            } else if (line.matches(" +.*\\b(int|boolean|void)\\b.*\\) \\{")) {
                inConstructor = false;
            }
            boolean field = line.matches(" +private final int\\[\\] \\w+ = new int\\[[A-Z_* ]+\\];");
            if (line.matches(".*\\bnew\\b.*") && !field && !inConstructor) {
                open.add(line.trim());
            }
        }
        for (String line : open) {
            fail("12", "made in a call: " + line);
        }
    }
}
