import java.io.IOException;
import java.net.URL;
import java.net.URLClassLoader;
import java.nio.file.Files;
import java.nio.file.Path;
import java.util.ArrayList;
import java.util.List;
import java.util.regex.Matcher;
import java.util.regex.Pattern;
import javax.tools.ToolProvider;

/**
 * The example of README.md, compiled and run as it stands there: each call's answer must be the one
 * that its comment begins with, and each call that answers must have such a comment.
 */
public final class ReadmeTest {
    private static final String BEGIN = "```java";
    private static final String END = "```";
    private static final String NAME = "ReadmeExample";
    /** The name that the answer is kept under, if any; the call; and the answer that is told. */
    private static final Pattern ANSWERED = Pattern.compile(
            "(?:int (\\w+) = )?(world\\.\\w+\\(.*\\)); *// (-?\\d+|true|false)(?::.*)?");
    private static final Pattern UNANSWERED = Pattern.compile(
            "(?:RobotWorld world = new RobotWorld|world\\.init|world\\.setClock)\\([^()]*\\);(?: *//.*)?");
    private static final Check CHECK = new Check();

    private final List<String> calls = new ArrayList<>();
    private final List<String> told = new ArrayList<>();
    private final StringBuilder body = new StringBuilder();

    public static void main(String[] args) throws Exception {
        ReadmeTest test = new ReadmeTest();
        for (String line : example(Files.readAllLines(Path.of("README.md")))) {
            test.read(line.strip());
        }
        test.compare(test.answers());
        CHECK.end("ReadmeTest");
    }

    private static List<String> example(List<String> readme) {
        int begin = readme.indexOf(BEGIN);
        CHECK.yes("README.md has an example", begin >= 0);
        CHECK.same("and no other", readme.lastIndexOf(BEGIN), begin);
        List<String> rest = readme.subList(begin + 1, readme.size());
        return rest.subList(0, rest.indexOf(END));
    }

    private void read(String line) {
        Matcher answered = ANSWERED.matcher(line);
        if (answered.matches()) {
            String kept = answered.group(1);
            calls.add(line);
            told.add(answered.group(3));
            body.append(kept == null ? "" : "int " + kept + " = " + answered.group(2) + ";\n");
            body.append("answers.add(\"\" + ").append(kept == null ? answered.group(2) : kept);
            body.append(");\n");
        } else {
            boolean silent = line.isEmpty() || line.startsWith("//") || UNANSWERED.matcher(line).matches();
            CHECK.yes("'" + line + "' tells its answer, if it has one", silent);
            body.append(line).append('\n');
        }
    }

    private List<?> answers() throws Exception {
        Path folder = Files.createTempDirectory("readme");
        try {
            Path source = folder.resolve(NAME + ".java");
            Files.writeString(source, "import java.util.*;\npublic final class " + NAME + " {\n"
                    + "public static List<String> answers() {\n"
                    + "List<String> answers = new ArrayList<>();\n" + body + "return answers;\n}\n}\n");
            CHECK.same("javac of the example", ToolProvider.getSystemJavaCompiler().run(null, null, null,
                    "-cp", System.getProperty("java.class.path"), source.toString()), 0);
            try (URLClassLoader loader = new URLClassLoader(new URL[] {folder.toUri().toURL()})) {
                return (List<?>) loader.loadClass(NAME).getMethod("answers").invoke(null);
            }
        } finally {
            delete(folder);
        }
    }

    private static void delete(Path folder) throws IOException {
        for (String ending : new String[] {".java", ".class"}) {
            Files.deleteIfExists(folder.resolve(NAME + ending));
        }
        Files.delete(folder);
    }

    private void compare(List<?> answers) {
        CHECK.yes("the example has calls that answer", !calls.isEmpty());
        CHECK.same("answers", answers.size(), told.size());
        for (int i = 0; i < calls.size(); i++) {
            CHECK.alike("README.md, '" + calls.get(i) + "',", answers.get(i) + "\n", told.get(i) + "\n");
        }
    }
}
