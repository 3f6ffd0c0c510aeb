import java.io.IOException;
import java.nio.file.Files;
import java.nio.file.Path;
import java.util.regex.Matcher;
import java.util.regex.Pattern;

/** What of ../shared/LANGUAGE.md can be seen in the program's lines; it is run from the project's directory. */
public final class LanguageTest {
    private static final Path PROGRAM = Path.of("src/main/java/GuestWeighsLess.java");
    private static final String ALLOWED_CALLS = "Math\\.(max|min|abs|floorDiv|floorMod)|Integer\\.(bitCount|compare)"
        + "|Long\\.(bitCount|compare)|System\\.arraycopy|Arrays\\.(copyOf|copyOfRange|fill)";
    private static final String ALLOWED_EXCEPTIONS = "IllegalStateException|IllegalArgumentException"
        + "|IndexOutOfBoundsException|ArithmeticException|UnsupportedOperationException|NoSuchElementException"
        + "|RuntimeException";
    /** No call of the program is answered by catching these: the machine throws them, or ones under them. */
    private static final String MACHINES_OWN = "RuntimeException|Exception|Throwable|IndexOutOfBoundsException"
        + "|ArithmeticException|NullPointerException|ClassCastException|NegativeArraySizeException"
        + "|ArrayStoreException|ArrayIndexOutOfBoundsException";
    private static final Check check = new Check();

    public static void main(String[] args) throws IOException {
        String whole = Files.readString(PROGRAM);
        check.dueTrue("signs 1 to 127", whole.chars().allMatch(c -> c >= 1 && c <= 127));
        String program = withoutCommentsAndTexts(whole);
        wordsThatAreNot(program);
        library(program);
        exceptions(program);
        loopsEnd(program);
        staticFields(program);
        sizes(program);
        check.end();
    }

    private static String withoutCommentsAndTexts(String program) {
        return program.replaceAll("(?s)/\\*.*?\\*/", "").replaceAll("//[^\n]*", "")
            .replaceAll("\"(\\\\.|[^\"\\\\\n])*\"", "\"\"").replaceAll("'(\\\\.|[^'\\\\\n])'", "' '");
    }

    private static void none(String program, String what, String pattern) {
        Matcher m = Pattern.compile(pattern).matcher(program);
        check.dueTrue("none: " + what + (m.find() ? ", but " + m.group() : ""), !m.reset().find());
    }

    private static void wordsThatAreNot(String program) {
        none(program, "package line or import", "(?m)^\\s*(package|import)\\b");
        none(program, "annotation, lambda, method reference", "@|->|::");
        none(program, "words that rule 6 leaves out", "\\b(finally|synchronized|assert|getMessage|extends \\w*Exception)\\b");
        none(program, "equals, hashCode, toString of one's own", "\\b(int hashCode|boolean equals|String toString)\\b");
        none(program, "joined texts", "\"\"\\s*\\+|\\+\\s*\"\"");
        none(program, "doubles and floats", "\\b(double|float)\\b");
    }

    private static void library(String program) {
        Matcher m = Pattern.compile("\\b(Math|Integer|Long|System|Arrays|String|Character|Byte|Short|Boolean)\\.\\w+")
            .matcher(program);
        while (m.find()) {
            check.dueTrue("the library has " + m.group(), m.group().matches(ALLOWED_CALLS));
        }
        none(program, "functions whose name ends in Exact", "\\w+Exact\\b");
    }

    private static void exceptions(String program) {
        Matcher thrown = Pattern.compile("\\bthrow\\b[^;]*;").matcher(program);
        while (thrown.find()) {
            check.dueTrue("thrown: " + thrown.group(),
                thrown.group().matches("throw new (" + ALLOWED_EXCEPTIONS + ")\\((\"\")?\\);"));
        }
        Matcher caught = Pattern.compile("\\bcatch \\(([^)]*)\\)").matcher(program);
        while (caught.find()) {
            for (String kind : caught.group(1).replaceAll("\\s\\w+$", "").split("\\s*\\|\\s*")) {
                check.dueTrue("caught: " + kind, kind.matches(ALLOWED_EXCEPTIONS) && !kind.matches(MACHINES_OWN));
            }
        }
    }

    /** Rule 9: a for counts in its head, a while counts one of what its head looks at. */
    private static void loopsEnd(String program) {
        Matcher heads = Pattern.compile("\\bfor \\(([^;{]*);([^;{]*);([^;{]*)\\) \\{").matcher(program);
        while (heads.find()) {
            Matcher step = Pattern.compile("\\s*(\\w+)(\\+\\+|--)\\s*").matcher(heads.group(3));
            check.dueTrue("a counter against a bound: " + heads.group(),
                step.matches() && heads.group(2).matches("(?s).*\\b" + step.group(1) + " (<|<=|>|>=) .*"));
        }
        String[] lines = program.split("\n");
        for (int i = 0; i < lines.length; i++) {
            if (lines[i].trim().startsWith("while (")) {
                check.dueTrue("a counter in the loop: " + lines[i].trim(), countsInside(lines, i));
            }
        }
        none(program, "loops by do", "\\bdo \\{");
    }

    private static boolean countsInside(String[] lines, int head) {
        String indent = lines[head].replaceAll("\\S.*", "");
        for (int i = head + 1; i < lines.length && !lines[i].startsWith(indent + "}"); i++) {
            Matcher step = Pattern.compile(indent + "    (\\w+)\\+\\+;").matcher(lines[i]);
            if (step.matches() && lines[head].matches(".*\\b" + step.group(1) + " (<|<=) .*")) {
                return true;
            }
        }
        return false;
    }

    private static void staticFields(String program) {
        Matcher m = Pattern.compile("(?m)^\\s*(private |public )?static (?!final class|class)[^(\n]*=[^\n]*$").matcher(program);
        while (m.find()) {
            check.dueTrue("static fields are final: " + m.group().trim(),
                m.group().matches("(?s)\\s*private static final (int|long|boolean|char|String)(\\[\\])? .*"));
        }
    }

    private static void sizes(String program) {
        Matcher classes = Pattern.compile("\\b(class|interface|enum|record) \\w+").matcher(program);
        int found = 0;
        while (classes.find()) {
            found++;
        }
        check.dueTrue("some twelve classes: " + found, found <= 12);
        String[] lines = program.split("\n");
        for (int i = 0; i < lines.length; i++) {
            Matcher head = Pattern.compile("( +)[\\w\\[\\]<> ]+\\(([^()]*)\\)[\\w, ]* \\{").matcher(lines[i]);
            if (head.matches() && !lines[i].matches("\\s*(if|for|while|switch|\\} ).*")) {
                check.dueTrue("seven parameters: " + lines[i], head.group(2).split(",").length <= 7);
                check.dueTrue("some sixty lines: " + lines[i], linesOf(lines, i, head.group(1)) <= 60);
            }
        }
    }

    private static int linesOf(String[] lines, int head, String indent) {
        int n = 1;
        while (head + n < lines.length && !lines[head + n].startsWith(indent + "}")) {
            n++;
        }
        return n + 1;
    }
}
