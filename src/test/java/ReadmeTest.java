import java.io.IOException;
import java.lang.reflect.InvocationTargetException;
import java.lang.reflect.Method;
import java.lang.reflect.Modifier;
import java.nio.file.DirectoryStream;
import java.nio.file.Files;
import java.nio.file.Path;
import java.util.List;
import java.util.regex.Matcher;
import java.util.regex.Pattern;

/** What README.md says: the calls of its examples answer as it tells, and its tables leave nothing out. */
final class ReadmeTest {
    private static final Pattern CALL = Pattern.compile("x\\.(\\w+)\\(([^)]*)\\); +// (-?\\d+)(:.*)?");

    public static void main(String[] args) throws Exception {
        List<String> lines = Files.readAllLines(Path.of("README.md"));
        Due.sentence("README.md, the examples");
        examples(lines);
        Due.sentence("README.md, the calls");
        calls(lines);
        Due.sentence("README.md, the tokens");
        tokens(lines);
        Due.sentence("README.md, how to run its tests");
        tests(lines);
        Due.end("ReadmeTest");
    }

    private static void examples(List<String> lines) throws IllegalAccessException, InvocationTargetException {
        VectorLanes x = null;
        int objects = 0;
        for (String line : lines) {
            if (line.equals("VectorLanes x = new VectorLanes();")) {
                x = new VectorLanes();
                objects++;
            } else if (line.startsWith("x.")) {
                Matcher parts = CALL.matcher(line);
                Due.is("\"" + line + "\" is a call with its answer", parts.matches() ? 1 : 0, 1);
                Due.is(line, answer(x, parts.group(1), parts.group(2)), Integer.parseInt(parts.group(3)));
            }
        }
        Due.is("examples", objects, 2);
    }

    private static int answer(VectorLanes x, String name, String written) throws IllegalAccessException,
        InvocationTargetException {
        String[] words = written.isEmpty() ? new String[0] : written.split(", ");
        Object[] values = new Object[words.length];
        for (int k = 0; k < words.length; k++) {
            values[k] = Integer.valueOf(words[k]);
        }
        for (Method m : VectorLanes.class.getMethods()) {
            if (m.getName().equals(name) && m.getParameterCount() == values.length) {
                return (Integer) m.invoke(x, values);
            }
        }
        throw new IllegalArgumentException("no method " + name + " of " + words.length);
    }

    private static int linesThatBegin(List<String> lines, String words) {
        int count = 0;
        for (String line : lines) {
            count += line.startsWith(words) ? 1 : 0;
        }
        return count;
    }

    private static void calls(List<String> lines) {
        for (Method m : VectorLanes.class.getDeclaredMethods()) {
            if (Modifier.isPublic(m.getModifiers())) {
                Due.is("lines of the call " + m.getName(), linesThatBegin(lines, "| `" + m.getName() + "("), 1);
            }
        }
    }

    private static void tokens(List<String> lines) {
        for (int kind = 0; kind <= Kinds.END; kind++) {
            String begins = "| " + kind + " | " + Program.name(kind) + " ";
            Due.is("lines of the token " + begins, linesThatBegin(lines, begins), 1);
        }
    }

    private static void tests(List<String> lines) throws IOException {
        Due.is("the line to run the tests", linesThatBegin(lines, "    .ci/run"), 1);
        Due.is("it can be run", Files.isExecutable(Path.of(".ci/run")) ? 1 : 0, 1);
        String all = String.join("\n", lines);
        try (DirectoryStream<Path> found = Files.newDirectoryStream(Path.of("src/test/java"), "*Test.java")) {
            for (Path file : found) {
                String name = file.getFileName().toString().replace(".java", "");
                boolean told = Pattern.compile("^\\|.*\\b" + name + "\\b.*\\|", Pattern.MULTILINE).matcher(all).find();
                Due.is("the table of tests tells of " + name, told ? 1 : 0, 1);
            }
        }
    }
}
