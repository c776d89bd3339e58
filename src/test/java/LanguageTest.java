import java.nio.file.Files;
import java.nio.file.Path;
import java.util.regex.Matcher;
import java.util.regex.Pattern;

/** The rules of LANGUAGE.md that can be seen in the source's words. */
public final class LanguageTest {
    private static int wrong;

    public static void main(String[] args) throws Exception {
        String source = Files.readString(Path.of("src/main/java/SkyMargins.java"));
        String code = source.replaceAll("(?s)/\\*.*?\\*/", " ").replaceAll("//[^\n]*", " ")
            .replaceAll("\"[^\"]*\"", "\"\"").replaceAll("'[^']*'", "' '");
        none(code, "\\b(throw|throws|try|catch|finally|synchronized|assert|package|protected|volatile|transient)\\b");
        none(code, "->|::|\\bvar\\b|\\bvoid\\s+finalize\\b|\\binstanceof\\b");
        none(code, "\\b(System)\\.(?!arraycopy\\b)\\w+|\\bArrays\\.(?!(copyOf|copyOfRange|fill)\\b)\\w+");
        none(code, "\\bMath\\.\\w*Exact\\b|\\b(Object|Class|Thread|Random|Scanner|BigInteger|HashMap|Map|Set)\\b");
        none(code, "\\b(equals|hashCode|toString|getClass|clone)\\s*\\(");
        none(code, "\"\"\\s*\\+|\\+\\s*\"\"");
        none(code, "(?m)^import (?!java\\.util\\.Arrays;)");
        none(code, "(?<!static )(?<!static final )\\bclass \\w+ (?!\\{)");
        none(code, "\\bstatic (?!final\\b)(?!class\\b)(int|long|boolean|String|char|byte|double)(\\[\\])* \\w+\\s*[=;]");
        methodLengths(source);
        if (count(code, "\\bclass\\b") > 13) {
            say("more than twelve classes inside");
        }
        if (source.chars().anyMatch(sign -> sign > 126)) {
            say("signs beyond 126");
        }
        if (wrong != 0) {
            System.exit(1);
        }
    }

    private static void say(String line) {
        wrong++;
        System.out.println(line);
    }

    private static void none(String code, String pattern) {
        Matcher found = Pattern.compile(pattern).matcher(code);
        while (found.find()) {
            say("against LANGUAGE.md: " + found.group());
        }
    }

    private static int count(String code, String pattern) {
        Matcher found = Pattern.compile(pattern).matcher(code);
        int many = 0;
        while (found.find()) {
            many++;
        }
        return many;
    }

    /** Methods of at most sixty lines, and of at most seven parameters. */
    private static void methodLengths(String source) {
        String[] lines = source.split("\n");
        int from = -1;
        String indent = "";
        for (int i = 0; i < lines.length; i++) {
            Matcher head = Pattern.compile("^( {4}| {8})(\\w[\\w\\[\\] ]*)\\(([^)]*)\\) \\{$").matcher(lines[i]);
            if (head.find()) {
                from = i;
                indent = head.group(1);
                if (head.group(3).split(",").length > 7) {
                    say("too many parameters: " + lines[i]);
                }
            } else if (from >= 0 && lines[i].equals(indent + "}")) {
                if (i - from > 60) {
                    say("too long: " + lines[from]);
                }
                from = -1;
            }
        }
    }
}
