import java.io.ByteArrayOutputStream;
import java.io.IOException;
import java.io.PrintStream;
import java.net.URL;
import java.net.URLClassLoader;
import java.nio.file.Files;
import java.nio.file.Path;
import java.util.ArrayList;
import java.util.List;
import java.util.TreeSet;
import java.util.regex.MatchResult;
import java.util.regex.Pattern;
import java.util.stream.Stream;
import javax.tools.ToolProvider;

/** README.md: its example compiles, runs and prints what is said there; each member is told as in the document. */
public final class ReadmeTest {
    private static final Path DOCUMENT = Path.of("../shared/DOC.md");
    private static final int MEMBERS = 37;

    public static void main(String[] args) throws Exception {
        String page = Files.readString(Path.of("README.md"));
        example(page);
        if (Files.exists(DOCUMENT)) {
            String document = Files.readString(DOCUMENT);
            members(page, document);
            constants(page, document);
        } else {
            System.out.println(DOCUMENT + " is not at hand: what README.md tells of the members is not compared");
        }
        tests(page);
        Check.end();
    }

    // ---- the example

    private static void example(String page) throws Exception {
        String program = fenced(page, "java");
        Path home = Files.createTempDirectory("example");
        try {
            Path file = home.resolve("Example.java");
            Files.writeString(file, program);
            int problems = ToolProvider.getSystemJavaCompiler().run(null, null, null, "-Xlint:all", "-Werror",
                    "-d", home.toString(), "src/main/java/TwigPatch.java", file.toString());
            Check.is("compiling the example", problems, 0);
            Check.is("what the example prints", problems == 0 ? printed(home) : "", fenced(page, "text"));
        } finally {
            sweep(home);
        }
    }

    private static String printed(Path home) throws Exception {
        PrintStream before = System.out;
        ByteArrayOutputStream caught = new ByteArrayOutputStream();
        try (URLClassLoader loader = new URLClassLoader(new URL[] {home.toUri().toURL()}, null);
                PrintStream out = new PrintStream(caught, true)) {
            System.setOut(out);
            loader.loadClass("Example").getMethod("main", String[].class).invoke(null, (Object) new String[0]);
        } finally {
            System.setOut(before);
        }
        return caught.toString().replace(System.lineSeparator(), "\n");
    }

    /** The only part of the page that is fenced so. */
    private static String fenced(String page, String language) {
        List<String> parts = found("(?s)```" + language + "\n(.*?)```", page);
        Check.is("parts fenced as " + language, parts.size(), 1);
        return parts.isEmpty() ? "" : parts.get(0);
    }

    private static void sweep(Path home) throws IOException {
        List<Path> all;
        try (Stream<Path> paths = Files.walk(home)) {
            all = new ArrayList<>(paths.toList());
        }
        for (int i = all.size() - 1; i >= 0; i--) {
            Files.delete(all.get(i));
        }
    }

    // ---- the members

    private static void members(String page, String document) {
        List<String> promises = found("(?s)\n## Promise \\d+: [^\n]*\n+(.*?)(?=\n## )", document);
        Check.is("promises", promises.size(), MEMBERS);
        Check.is("members", found("\n#### (`[^\n]*`)\n", page).size(), MEMBERS);
        for (String promise : promises) {
            List<String> due = member(promise);
            Check.is("what README.md tells", told(page, due.get(0)), due);
        }
    }

    /** A promise as README.md tells it: the head, what the member does, and a list of the other lines. */
    private static List<String> member(String promise) {
        List<String> due = new ArrayList<>();
        for (String line : promise.split("\n")) {
            if (due.isEmpty()) {
                int end = line.indexOf("`: ");
                due.add("#### " + line.substring(0, end).replaceAll(" throws .*", "") + "`");
                due.add(line.substring(end + 3));
            } else if (!line.isBlank()) {
                due.add(line.startsWith("- ") ? line : "- " + line);
            }
        }
        return due;
    }

    private static List<String> told(String page, String head) {
        List<String> lines = new ArrayList<>();
        for (String line : page.split("\n")) {
            if (line.equals(head) || !lines.isEmpty() && !line.startsWith("#")) {
                lines.add(line);
            } else if (!lines.isEmpty()) {
                break;
            }
        }
        lines.removeIf(String::isBlank);
        return lines;
    }

    private static void constants(String page, String document) {
        List<String> lines = found("\n(?:The constants: )?(`[A-Z]+ = [^\n]*`: [^\n]*)", document);
        Check.is("lines of constants", lines.size(), 4);
        for (String line : lines) {
            Check.is("README.md tells " + line, page.contains("| " + line.replace("`: ", "` | ") + " |"), true);
        }
    }

    // ---- the tests

    private static void tests(String page) throws IOException {
        TreeSet<String> told = new TreeSet<>(found("`(\\w+Test)`", page));
        TreeSet<String> there = new TreeSet<>();
        try (Stream<Path> files = Files.list(Path.of("src/test/java"))) {
            for (Path file : files.toList()) {
                there.addAll(found("^(\\w+Test)\\.java$", file.getFileName().toString()));
            }
        }
        Check.is("the tests that README.md tells", told, there);
    }

    private static List<String> found(String pattern, String text) {
        return Pattern.compile(pattern).matcher(text).results().map(ReadmeTest::firstGroup).toList();
    }

    private static String firstGroup(MatchResult match) {
        return match.group(1);
    }
}
