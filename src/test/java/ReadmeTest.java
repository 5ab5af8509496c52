import java.io.IOException;
import java.lang.reflect.Method;
import java.lang.reflect.Modifier;
import java.net.URL;
import java.net.URLClassLoader;
import java.nio.file.Files;
import java.nio.file.Path;
import java.util.ArrayList;
import java.util.List;
import java.util.function.Supplier;
import java.util.regex.Matcher;
import java.util.regex.Pattern;
import javax.tools.ToolProvider;

/**
 * README.md holds: its example compiles, and each call answers what stands behind it; its table has every call
 * of the face. Runs in the project's root.
 */
public final class ReadmeTest {
    private static final Path README = Path.of("README.md");
    /** A call whose answer is told; a call that is kept in a variable has none. */
    private static final Pattern TOLD = Pattern.compile("^(house\\.[^;]*);\\s+// (-?\\d+|true|false)\\b.*");

    private ReadmeTest() {
    }

    public static void main(String[] args) throws IOException, ReflectiveOperationException {
        List<String> readme = Files.readAllLines(README);
        exampleAnswersAsTold(example(readme));
        tableHasEveryCall(readme);
        Due.end();
    }

    private static List<String> example(List<String> readme) {
        int start = readme.indexOf("```java") + 1;
        Due.is("README.md has an example", start > 0, true);
        List<String> rest = readme.subList(start, readme.size());
        return rest.subList(0, Math.max(0, rest.indexOf("```")));
    }

    private static void exampleAnswersAsTold(List<String> example) throws IOException, ReflectiveOperationException {
        List<String> calls = new ArrayList<>();
        List<String> told = new ArrayList<>();
        StringBuilder body = new StringBuilder();
        for (String line : example) {
            Matcher matcher = TOLD.matcher(line);
            if (matcher.matches()) {
                calls.add(matcher.group(1));
                told.add(matcher.group(2));
                body.append("answers.add(").append(matcher.group(1)).append(");\n");
            } else {
                body.append(line).append('\n');
            }
        }
        List<Object> answers = answersOf(body.toString());
        Due.is("answers of README.md", answers.size(), told.size());
        Due.is("README.md tells answers", told.isEmpty(), false);
        for (int i = 0; i < answers.size() && i < told.size(); i++) {
            String what = calls.get(i) + " answered " + answers.get(i) + ", README.md tells " + told.get(i);
            Due.is(what, String.valueOf(answers.get(i)).equals(told.get(i)), true);
        }
    }

    /** Compiled from the very lines that README.md shows, so that they cannot differ from what is run here. */
    private static List<Object> answersOf(String body) throws IOException, ReflectiveOperationException {
        Path folder = Files.createTempDirectory("readme");
        Path source = folder.resolve("ReadmeExample.java");
        Files.writeString(source, "import java.util.*;\n"
                + "public final class ReadmeExample implements java.util.function.Supplier<List<Object>> {\n"
                + "public List<Object> get() {\nList<Object> answers = new ArrayList<>();\n"
                + body + "return answers;\n}\n}\n");
        int failed = ToolProvider.getSystemJavaCompiler().run(null, null, null,
                "-cp", System.getProperty("java.class.path"), "-d", folder.toString(), source.toString());
        Due.is("README.md's example compiles", failed, 0);
        List<Object> answers = new ArrayList<>();
        if (failed == 0) {
            try (URLClassLoader loader = new URLClassLoader(new URL[] {folder.toUri().toURL()})) {
                Object made = loader.loadClass("ReadmeExample").getConstructor().newInstance();
                if (made instanceof Supplier<?> supplier && supplier.get() instanceof List<?> list) {
                    answers.addAll(list);
                }
            }
        }
        Files.deleteIfExists(folder.resolve("ReadmeExample.class"));
        Files.delete(source);
        Files.delete(folder);
        return answers;
    }

    private static void tableHasEveryCall(List<String> readme) {
        for (Method method : BillHouse.class.getDeclaredMethods()) {
            if (Modifier.isPublic(method.getModifiers())) {
                String row = "| `" + method.getName() + "(";
                boolean isThere = readme.stream().anyMatch(line -> line.startsWith(row));
                Due.is("README.md's table has " + method.getName(), isThere, true);
            }
        }
    }
}
