import java.io.ByteArrayOutputStream;
import java.io.IOException;
import java.io.PrintStream;
import java.io.UncheckedIOException;
import java.net.URL;
import java.net.URLClassLoader;
import java.nio.file.Files;
import java.nio.file.Path;
import java.util.ArrayList;
import java.util.Comparator;
import java.util.List;
import java.util.stream.Stream;
import javax.tools.ToolProvider;

/** README.md holds what it says: its example compiles and prints what stands below it, its tests are those there are. */
public final class ReadmeTest {
    private static final Path README = Path.of("README.md");
    private static final Path TESTS = Path.of("src/test/java");

    public static void main(String[] args) throws Exception {
        List<String> lines = Files.readAllLines(README);
        example(lines);
        namesOfTests(lines);
        commands(lines);
        Due.close("ReadmeTest");
    }

    /** The lines of each block of a kind. */
    private static List<List<String>> blocks(List<String> lines, String kind) {
        List<List<String>> found = new ArrayList<>();
        boolean inside = false;
        for (String line : lines) {
            if (inside && line.equals("```")) {
                inside = false;
            } else if (inside) {
                found.get(found.size() - 1).add(line);
            } else if (line.equals("```" + kind)) {
                found.add(new ArrayList<>());
                inside = true;
            }
        }
        return found;
    }

    private static void example(List<String> lines) throws Exception {
        List<List<String>> java = blocks(lines, "java");
        List<List<String>> printed = blocks(lines, "text");
        Due.equal("examples in README.md", java.size(), 1);
        Due.equal("their outputs", printed.size(), 1);
        if (java.size() != 1 || printed.size() != 1) {
            return;
        }
        Path work = Files.createTempDirectory("readme");
        try {
            List<String> seen = run(work, java.get(0));
            for (int i = 0; i < Math.max(seen.size(), printed.get(0).size()); i++) {
                Due.equal("line " + (i + 1) + " of the example", lineOf(seen, i), lineOf(printed.get(0), i));
            }
        } finally {
            delete(work);
        }
    }

    private static String lineOf(List<String> lines, int i) {
        return i < lines.size() ? lines.get(i) : "no line";
    }

    /** Compiles the example as it stands and answers what it prints. */
    private static List<String> run(Path work, List<String> example) throws Exception {
        Path source = work.resolve("Example.java");
        Files.write(source, example);
        int code = ToolProvider.getSystemJavaCompiler().run(null, null, null, "-Xlint:all", "-Werror",
                "-cp", System.getProperty("java.class.path"), "-d", work.toString(), source.toString());
        Due.equal("compiling the example", code, 0);
        if (code != 0) {
            return List.of();
        }
        ByteArrayOutputStream bytes = new ByteArrayOutputStream();
        PrintStream before = System.out;
        try (URLClassLoader loader = new URLClassLoader(new URL[] {work.toUri().toURL()})) {
            System.setOut(new PrintStream(bytes, true));
            loader.loadClass("Example").getMethod("main", String[].class).invoke(null, (Object) new String[0]);
        } finally {
            System.setOut(before);
        }
        return bytes.toString().lines().toList();
    }

    private static void delete(Path work) throws IOException {
        try (Stream<Path> files = Files.walk(work)) {
            files.sorted(Comparator.reverseOrder()).forEach(ReadmeTest::deleteOne);
        }
    }

    private static void deleteOne(Path file) {
        try {
            Files.delete(file);
        } catch (IOException e) {
            throw new UncheckedIOException(e);
        }
    }

    private static void namesOfTests(List<String> lines) throws IOException {
        String text = String.join("\n", lines);
        try (Stream<Path> files = Files.list(TESTS)) {
            for (String name : files.map(f -> f.getFileName().toString().replace(".java", "")).sorted().toList()) {
                if (name.endsWith("Test")) {
                    Due.equal("README.md names " + name, text.contains("`" + name + "`"), true);
                }
            }
        }
    }

    private static void commands(List<String> lines) {
        List<List<String>> blocks = blocks(lines, "sh");
        Due.equal("README.md says how all tests are run", blocks.contains(List.of(".ci/run")), true);
        String all = blocks.toString();
        Due.equal("and one of the project alone", all.contains("java -cp out CourtEdgeTest"), true);
        Due.equal("and one of the shared ones alone", all.contains("java -cp out GlitchCourtRuns"), true);
    }
}
