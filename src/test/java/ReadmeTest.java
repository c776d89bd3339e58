import java.net.URL;
import java.net.URLClassLoader;
import java.nio.file.Files;
import java.nio.file.Path;
import java.util.ArrayList;
import java.util.List;
import java.util.function.LongConsumer;
import java.util.regex.Matcher;
import java.util.regex.Pattern;
import java.util.stream.Stream;
import javax.tools.ToolProvider;

/** README.md: its code answers what stands behind it, its table tells all tests, each call it names is there. */
public final class ReadmeTest {
    private static final Pattern ANSWERED = Pattern.compile("(?:int (\\w+) = )?(.+);\\s+// (-?\\d+)(?:: .*)?");
    private static final Due due = new Due();

    public static void main(String[] args) throws Exception {
        String page = Files.readString(Path.of("README.md"));
        codeAnswers(page);
        tableTellsAllTests(page);
        callsAreThere(page);
        due.close();
    }

    private static void codeAnswers(String page) throws Exception {
        StringBuilder members = new StringBuilder();
        StringBuilder play = new StringBuilder();
        List<String> lines = new ArrayList<>();
        List<Long> want = new ArrayList<>();
        Matcher block = Pattern.compile("(?ms)^```java\n(.*?)^```$").matcher(page);
        while (block.find()) {
            if (block.group(1).startsWith("static ")) {
                members.append(block.group(1));
                continue;
            }
            for (String line : block.group(1).split("\n")) {
                play.append(played(line, lines, want)).append("\n");
            }
        }
        List<Long> got = new ArrayList<>();
        compiled(members, play).getMethod("play", LongConsumer.class).invoke(null, (LongConsumer) got::add);
        due.is("answers in README.md", want.size(), got.size());
        for (int i = 0; i < want.size(); i++) {
            due.is("README.md: " + lines.get(i), want.get(i), got.get(i));
        }
    }

    /** A line of the page's code, so that its answer is heard. */
    private static String played(String line, List<String> lines, List<Long> want) {
        Matcher answered = ANSWERED.matcher(line);
        if (!answered.matches()) {
            return line;
        }
        lines.add(line);
        want.add(Long.parseLong(answered.group(3)));
        String name = answered.group(1);
        return name == null ? "got.accept(" + answered.group(2) + ");"
            : "int " + name + " = " + answered.group(2) + "; got.accept(" + name + ");";
    }

    private static Class<?> compiled(CharSequence members, CharSequence play) throws Exception {
        Path folder = Files.createTempDirectory("readme");
        Path file = folder.resolve("ReadmeCode.java");
        Files.writeString(file, "public final class ReadmeCode {\n" + members
            + "public static void play(java.util.function.LongConsumer got) {\n" + play + "}\n}\n");
        int failed = ToolProvider.getSystemJavaCompiler().run(null, System.out, System.out, "-cp",
            System.getProperty("java.class.path"), "-d", folder.toString(), file.toString());
        due.is("compiling the code of README.md", 0, failed);
        try (URLClassLoader loader = new URLClassLoader(new URL[] {folder.toUri().toURL()})) {
            return loader.loadClass("ReadmeCode");
        } finally {
            Files.deleteIfExists(file);
            Files.deleteIfExists(folder.resolve("ReadmeCode.class"));
            Files.deleteIfExists(folder);
        }
    }

    private static void tableTellsAllTests(String page) throws Exception {
        List<String> told = new ArrayList<>();
        Matcher row = Pattern.compile("(?m)^\\| (\\w+Test) \\|").matcher(page);
        while (row.find()) {
            told.add(row.group(1));
        }
        try (Stream<Path> files = Files.list(Path.of("src/test/java"))) {
            List<String> there = files.map(f -> f.getFileName().toString()).filter(f -> f.endsWith("Test.java"))
                .map(f -> f.replace(".java", "")).sorted().toList();
            boolean same = told.stream().sorted().toList().equals(there);
            due.is("tests in the table " + told + " and there " + there, 1, same ? 1 : 0);
        }
    }

    /** A name with brackets, as `feed(a, b)` or `status()`, is a call of the class with as many numbers. */
    private static void callsAreThere(String page) {
        Matcher call = Pattern.compile("`(\\w+)\\(([^`]*)\\)`").matcher(page);
        while (call.find()) {
            int numbers = call.group(2).isEmpty() ? 0 : call.group(2).split(",").length;
            long there = Stream.of(SkyMargins.class.getMethods())
                .filter(m -> m.getName().equals(call.group(1)) && m.getParameterCount() == numbers).count();
            due.is("call " + call.group(), 1, there);
        }
    }
}
