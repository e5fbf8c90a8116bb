import java.io.IOException;
import java.net.URL;
import java.net.URLClassLoader;
import java.nio.file.Files;
import java.nio.file.Path;
import java.util.HashSet;
import java.util.List;
import java.util.Set;
import java.util.function.BiConsumer;
import java.util.regex.Matcher;
import java.util.regex.Pattern;
import javax.tools.ToolProvider;

/** The examples of README.md do what it says that they do. */
public final class ReadmeTest {
    private static final Path README = Path.of("README.md");
    private static final String EXAMPLE = "ReadmeExample";
    /** A call, with or without a name for its answer, and behind it the answer that is told. */
    private static final Pattern TOLD = Pattern.compile(
            "\\s*(?:int (\\w+) = )?(\\w+\\.\\w+\\(.*\\)); +// (-?\\d+|throws \\w+)(?::.*)?");
    /** A comment that tells an answer: none may be passed over. */
    private static final Pattern LIKE_TOLD = Pattern.compile(".*// *(-?\\d|throws).*");

    private final List<String> lines;
    private final StringBuilder methods = new StringBuilder();
    private final StringBuilder statements = new StringBuilder();
    private int linesToAsk = 0;
    private final Set<Integer> linesAsked = new HashSet<>();

    private ReadmeTest(List<String> lines) {
        this.lines = lines;
    }

    public static void main(String[] args) throws IOException, ReflectiveOperationException {
        ReadmeTest test = new ReadmeTest(Files.readAllLines(README));
        test.readExamples();
        test.runExamples();
        Check.end();
    }

    /** The blocks of Java are one program; a block that begins with static is a method of it. */
    private void readExamples() {
        StringBuilder block = null;
        for (int i = 0; i < lines.size(); i++) {
            String line = lines.get(i);
            if (line.equals("```java")) {
                block = lines.get(i + 1).startsWith("static ") ? methods : statements;
            } else if (line.equals("```")) {
                block = null;
            } else if (block != null) {
                block.append(statement(line, i)).append('\n');
            }
        }
    }

    /** A line of an example; where it tells an answer, it hands over the one that it gets. */
    private String statement(String line, int i) {
        Matcher told = TOLD.matcher(line);
        linesToAsk += LIKE_TOLD.matcher(line).matches() ? 1 : 0;
        if (!told.matches()) {
            return line;
        }
        String answer = "answers.accept(" + i + ", \"\" + ";
        String name = told.group(1);
        if (name != null) {
            return "int " + name + " = " + told.group(2) + "; " + answer + name + ");";
        }
        return "try { " + answer + told.group(2) + "); } catch (RuntimeException e) { " + answer
                + "\"throws \" + e.getClass().getSimpleName()); }";
    }

    private String program() {
        return "public final class " + EXAMPLE + " {\n" + methods + "public static void run("
                + "java.util.function.BiConsumer<Integer, String> answers) {\n"
                + statements + "}\n}\n";
    }

    private void runExamples() throws IOException, ReflectiveOperationException {
        Path folder = Files.createTempDirectory("readme");
        Path source = folder.resolve(EXAMPLE + ".java");
        try {
            Files.writeString(source, program());
            int failed = ToolProvider.getSystemJavaCompiler().run(null, null, null,
                    "-d", folder.toString(), "-cp", System.getProperty("java.class.path"),
                    source.toString());
            Check.due("compiling the examples", failed, 0);
            if (failed == 0) {
                run(folder);
            }
        } finally {
            Files.deleteIfExists(source);
            Files.deleteIfExists(folder.resolve(EXAMPLE + ".class"));
            Files.deleteIfExists(folder);
        }
        Check.due("lines that were asked", linesAsked.size(), linesToAsk);
    }

    private void run(Path folder) throws IOException, ReflectiveOperationException {
        BiConsumer<Integer, String> answers = this::look;
        try (URLClassLoader loader = new URLClassLoader(new URL[] {folder.toUri().toURL()})) {
            loader.loadClass(EXAMPLE).getMethod("run", BiConsumer.class).invoke(null, answers);
        }
    }

    private void look(int i, String answer) {
        linesAsked.add(i);
        Matcher told = TOLD.matcher(lines.get(i));
        Check.same("README.md, line " + (i + 1), answer, told.matches() ? told.group(3) : "none");
    }
}
