import java.io.IOException;
import java.nio.file.Files;
import java.nio.file.Path;
import java.util.Set;
import java.util.regex.Matcher;
import java.util.regex.Pattern;

/** The rules of LANGUAGE.md that can be seen in the text of OrderHall.java. */
public final class LanguageTest {
    private static final int MOST_LINES = 60;

    // what the hall uses of what rules 4 and 6 leave; more may be added from there
    private static final Set<String> LIBRARY = Set.of("Integer.bitCount", "Math.max", "Math.min");
    private static final Set<String> THROWN = Set.of(
            "IllegalStateException", "IllegalArgumentException", "IndexOutOfBoundsException");
    private static final String[] WORDS = {
        "package", "import", "try", "catch", "finally", "synchronized", "assert", "volatile", "native",
        "double", "float", "instanceof", "protected", "System", "Object", "getClass", "equals",
        "hashCode", "toString",
    };

    private static int wrong = 0;

    private static void want(boolean holds, String what) {
        if (!holds) {
            wrong++;
            System.out.println("does not hold: " + what);
        }
    }

    private static String withoutCommentsAndTexts(String source) {
        String bare = source.replaceAll("(?s)/\\*.*?\\*/", " ").replaceAll("//[^\n]*", " ");
        return bare.replaceAll("\"[^\"\n]*\"", "TEXT");
    }

    private static void words(String bare) {
        for (String word : WORDS) {
            want(!Pattern.compile("\\b" + word + "\\b").matcher(bare).find(), "no " + word);
        }
        want(!bare.contains("->"), "rule 2: no lambda");
        want(!bare.contains("::"), "rule 2: no method reference");
        want(!Pattern.compile("\\bstatic\\s*\\{").matcher(bare).find(), "rule 5: no static initialiser");
        want(!Pattern.compile("\\]\\s*\\[\\s*\\]\\s*\\[").matcher(bare).find(), "rule 3: two dimensions");
        want(!Pattern.compile("while\\s*\\(\\s*true").matcher(bare).find(), "rule 9: loops have an end");
    }

    private static void library(String bare) {
        Matcher call = Pattern.compile("\\b([A-Z][a-z]\\w*\\.\\w+)\\s*\\(").matcher(bare);
        while (call.find()) {
            want(LIBRARY.contains(call.group(1)), "rule 4: " + call.group(1));
        }
        Matcher thrown = Pattern.compile("\\bthrow\\b([^;]*);").matcher(bare);
        while (thrown.find()) {
            Matcher made = Pattern.compile("\\s+new (\\w+)\\((TEXT)?\\)").matcher(thrown.group(1));
            want(made.matches() && THROWN.contains(made.group(1)), "rule 6: throw" + thrown.group(1));
        }
    }

    /** A static field is final, and a number, a truth, a character or a text. */
    private static void fields(String bare) {
        Matcher field = Pattern.compile("\\bstatic\\b([^;{(]*)=").matcher(bare);
        while (field.find()) {
            boolean good = field.group(1).matches("\\s+final\\s+(int|long|boolean|char|String)\\s+[A-Z_]+\\s*");
            want(good, "rule 5: static" + field.group(1));
        }
    }

    private static void lengths(String bare) {
        Matcher head = Pattern.compile("(?m)^( +)[^\n;={}]*\\([^;={}]*\\)[^;={}]*\\{$").matcher(bare);
        int methods = 0;
        while (head.find()) {
            String indent = head.group(1);
            boolean method = indent.length() == 4 || indent.length() == 8;
            int end = bare.indexOf("\n" + indent + "}", head.end());
            long lines = bare.substring(head.start(), Math.max(end, head.start())).lines().count() + 1;
            methods += method ? 1 : 0;
            want(!method || end > 0 && lines <= MOST_LINES, "rule 11: some sixty lines: " + head.group().trim());
        }
        want(methods > 25, "the methods are seen");
    }

    private static void oneFile() throws IOException {
        try (var files = Files.list(Path.of("src/main/java"))) {
            want(files.count() == 1, "the program is one file");
        }
    }

    public static void main(String[] args) throws IOException {
        String bare = withoutCommentsAndTexts(Files.readString(Path.of("src/main/java/OrderHall.java")));
        oneFile();
        words(bare);
        library(bare);
        fields(bare);
        lengths(bare);
        System.out.println(wrong == 0 ? "the text keeps to the rules" : wrong + " rules are not kept");
        if (wrong != 0) {
            System.exit(1);
        }
    }
}
