import java.io.File;
import java.io.IOException;
import java.lang.reflect.Method;
import java.lang.reflect.Modifier;
import java.net.URL;
import java.net.URLClassLoader;
import java.nio.file.Files;
import java.nio.file.Path;
import java.util.List;
import java.util.regex.Matcher;
import java.util.regex.Pattern;
import javax.tools.ToolProvider;

/** What README.md says: the example's answers, every call of the face, every test, and how they are run. */
public final class ReadmeTest {
    private static final Path README = Path.of("README.md");
    private static final Path TESTS = Path.of("src/test/java");
    private static final Pattern ANSWER = Pattern.compile("    (int (\\w+) = )?(board\\..*); +// (-?\\d+): .*");
    private static final Pattern TEXT = Pattern.compile("`(Md\\S+)`");

    private static String readme = "";

    public static void main(String[] args) throws Exception {
        readme = Files.readString(README);
        everyCallIsNamed();
        everyTestIsNamed();
        theExampleAnswers();
        theTextIsTheExample();
        Check.end("ReadmeTest");
    }

    private static void everyCallIsNamed() {
        for (Method method : DogBoard.class.getDeclaredMethods()) {
            if (Modifier.isPublic(method.getModifiers())) {
                Check.isTrue("README names " + method.getName(), readme.contains("`" + method.getName() + "`"));
            }
        }
    }

    private static void everyTestIsNamed() throws IOException {
        Check.isTrue("README says how the tests are run", readme.contains("    .ci/run\n"));
        try (var files = Files.list(TESTS)) {
            for (Path file : files.toList()) {
                String name = file.getFileName().toString().replace(".java", "");
                boolean isTest = name.endsWith("Test") || name.endsWith("Edges") && !name.equals("Edges");
                Check.isTrue("README names " + name, !isTest || readme.contains("| `" + name + "` |"));
            }
        }
    }

    /** The example as a class of its own that answers, for each line with an answer, what the call answers then. */
    private static void theExampleAnswers() throws Exception {
        StringBuilder code = new StringBuilder("public final class Example {\n  public static String answers() {\n"
                + "    StringBuilder all = new StringBuilder();\n    DogBoard board = new DogBoard();\n");
        StringBuilder want = new StringBuilder();
        for (String line : readme.split("\n")) {
            Matcher answer = ANSWER.matcher(line);
            if (answer.matches()) {
                String name = answer.group(1) == null ? "int line" + want.length() + " = " : answer.group(1);
                code.append(name).append(answer.group(3)).append(";\n");
                code.append("all.append(").append(name.split(" ")[1]).append(").append(' ');\n");
                want.append(answer.group(4)).append(' ');
            }
        }
        code.append("    return all.toString();\n  }\n}\n");
        Check.isTrue("README has an example", want.length() > 0);
        Check.same("the example's answers", answersOf(code.toString()), want.toString());
    }

    private static String answersOf(String code) throws Exception {
        Path folder = Files.createTempDirectory("readme");
        Path file = folder.resolve("Example.java");
        Files.writeString(file, code);
        int failed = ToolProvider.getSystemJavaCompiler().run(null, null, null, "-d", folder.toString(), "-cp",
                System.getProperty("java.class.path"), file.toString());
        String answers = "it does not compile";
        if (failed == 0) {
            try (URLClassLoader loader = new URLClassLoader(new URL[] {folder.toUri().toURL()})) {
                answers = (String) loader.loadClass("Example").getMethod("answers").invoke(null);
            }
        }
        for (File each : List.of(folder.resolve("Example.class").toFile(), file.toFile(), folder.toFile())) {
            each.delete();
        }
        return answers;
    }

    private static void theTextIsTheExample() {
        Matcher text = TEXT.matcher(readme);
        Check.isTrue("README has a board as a text", text.find());
        DogBoard written = Check.loaded(text.group(1));
        DogBoard board = new DogBoard();
        board.lose(15, 2, 5, 100);
        board.hours(3);
        board.sight(1, 6, 13, 0, true);
        Check.same("the board of the text", Check.stateOf(written), Check.stateOf(board));
    }
}
