import java.io.IOException;
import java.net.URL;
import java.net.URLClassLoader;
import java.nio.file.Files;
import java.nio.file.Path;
import java.util.ArrayList;
import java.util.List;
import java.util.Set;
import java.util.TreeSet;
import java.util.regex.Matcher;
import java.util.regex.Pattern;
import javax.tools.ToolProvider;

/**
 * The Java that README.md shows compiles, and each call there answers what the comment behind it names.
 * The calls are read from README.md itself, so that the two cannot drift apart.
 */
public final class ReadmeTest extends Checks {
    private static final Pattern SHOWN = Pattern.compile("(?ms)^```java\n(.*?)^```$");
    private static final Pattern CALL = Pattern.compile(
            "(\\w+\\.(\\w+)\\([^()]*\\)); +// (-?\\d+|[A-Z_]+)(?: \\((-?\\d+)\\))?(?: .*|[:,;].*)?");
    private static final Set<String> METHODS = Set.of("add", "drop", "swap", "turn", "size", "input", "output",
            "exchanges", "sorts", "sorted", "ranks", "works", "below", "idle", "rounds");
    private static final Set<String> CODES = Set.of("BAD_ARG", "FULL", "NONE");

    private static final List<String> calls = new ArrayList<>();
    private static final List<Integer> named = new ArrayList<>();
    private static final Set<String> methods = new TreeSet<>();
    private static final Set<String> codes = new TreeSet<>();

    public static void main(String[] args) throws Exception {
        int[] answers = answersOf(program(Files.readString(Path.of("README.md"))));
        for (int c = 0; c < calls.size(); c++) {
            due("README.md, call " + (c + 1) + ", " + calls.get(c), answers[c], named.get(c));
        }
        same("methods that README.md shows", methods, METHODS);
        same("codes that README.md shows", codes, CODES);
        end();
    }

    /** The shown Java as one program that notes the answers; the parts go on where the one before ended. */
    private static String program(String readme) {
        StringBuilder body = new StringBuilder();
        Matcher shown = SHOWN.matcher(readme);
        while (shown.find()) {
            for (String line : shown.group(1).split("\n")) {
                body.append(noted(line)).append('\n');
            }
        }
        return "public final class Shown { public static int[] answers() { int[] answers = new int["
                + calls.size() + "];\n" + body + "return answers; } }\n";
    }

    private static String noted(String line) {
        Matcher call = CALL.matcher(line);
        if (!call.matches()) {
            // Only what is inside a loop, and so has more than one answer, may go without one.
            same("a call without its answer: " + line, line.matches("\\w+\\.\\w+\\(.*"), false);
            return line;
        }
        int answer = valueOf(call.group(3));
        if (call.group(4) != null) {
            same("the number behind the code: " + line, Integer.valueOf(call.group(4)), answer);
        }
        calls.add(call.group(1));
        named.add(answer);
        methods.add(call.group(2));
        return "answers[" + (calls.size() - 1) + "] = " + call.group(1) + ";";
    }

    private static int valueOf(String answer) {
        if (!answer.matches("[A-Z_]+")) {
            return Integer.parseInt(answer);
        }
        codes.add(answer);
        switch (answer) {
            case "BAD_ARG": return BAD_ARG;
            case "FULL": return FULL;
            case "NONE": return NONE;
            default: throw new IllegalArgumentException("README.md names no code of the document: " + answer);
        }
    }

    private static int[] answersOf(String program) throws IOException, ReflectiveOperationException {
        Path directory = Files.createTempDirectory("readme");
        Path source = directory.resolve("Shown.java");
        Path compiled = directory.resolve("Shown.class");
        try {
            Files.writeString(source, program);
            int code = ToolProvider.getSystemJavaCompiler().run(null, null, null, "--release", "17",
                    "-cp", System.getProperty("java.class.path"), "-d", directory.toString(), source.toString());
            due("compiling what README.md shows", code, 0);
            try (URLClassLoader loader = new URLClassLoader(new URL[] {directory.toUri().toURL()})) {
                return (int[]) loader.loadClass("Shown").getMethod("answers").invoke(null);
            }
        } finally {
            Files.deleteIfExists(source);
            Files.deleteIfExists(compiled);
            Files.delete(directory);
        }
    }
}
