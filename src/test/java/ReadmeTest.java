import java.io.IOException;
import java.lang.reflect.Method;
import java.lang.reflect.Modifier;
import java.net.URL;
import java.net.URLClassLoader;
import java.nio.file.Files;
import java.nio.file.Path;
import java.util.ArrayList;
import java.util.List;
import java.util.regex.Matcher;
import java.util.regex.Pattern;
import javax.tools.ToolProvider;

/** README.md: its example, compiled and run, gives the answers that it says, and each call is told of. */
public final class ReadmeTest {
    private static final Pattern BLOCK = Pattern.compile("```java\n(.*?)```", Pattern.DOTALL);
    private static final Pattern ANSWER = Pattern.compile("(int|boolean) (\\w+) = .*; +// (-?\\w+).*");

    public static void main(String[] args) throws Exception {
        Check check = new Check();
        String readme = Files.readString(Path.of("README.md"));
        StringBuilder helpers = new StringBuilder();
        StringBuilder steps = new StringBuilder();
        Matcher block = BLOCK.matcher(readme);
        while (block.find()) {
            (block.group(1).startsWith("static ") ? helpers : steps).append(block.group(1));
        }
        List<String> names = new ArrayList<>();
        List<String> due = new ArrayList<>();
        for (String line : steps.toString().split("\n")) {
            Matcher answer = ANSWER.matcher(line);
            if (answer.matches()) {
                names.add(answer.group(2));
                due.add(answer.group(3));
            } else {
                check.text("a line without an answer", line, "StageDispatcher d = new StageDispatcher();");
            }
        }
        check.yes("the example has answers", names.size() > 20);
        String[] got = answers(helpers.toString(), steps.toString(), names);
        for (int i = 0; i < names.size(); i++) {
            check.text("README.md: " + names.get(i), got[i], due.get(i));
        }
        everyCallIsToldOf(check, readme, steps.toString());
        check.end();
    }

    private static String[] answers(String helpers, String steps, List<String> names) throws Exception {
        StringBuilder source = new StringBuilder("public final class Example {\n").append(helpers)
                .append("public static String[] answers() {\n").append(steps).append("return new String[] {");
        for (String name : names) {
            source.append("String.valueOf(").append(name).append("), ");
        }
        source.append("};\n}\n}\n");
        Path place = Files.createTempDirectory("readme");
        try {
            return compiled(place, source.toString());
        } finally {
            Files.deleteIfExists(place.resolve("Example.class"));
            Files.deleteIfExists(place.resolve("Example.java"));
            Files.deleteIfExists(place);
        }
    }

    private static String[] compiled(Path place, String source) throws Exception {
        Path file = Files.writeString(place.resolve("Example.java"), source);
        int code = ToolProvider.getSystemJavaCompiler().run(null, null, null,
                "-cp", System.getProperty("java.class.path"), "-d", place.toString(), file.toString());
        if (code != 0) {
            throw new IOException("the example in README.md does not compile");
        }
        try (URLClassLoader loader = new URLClassLoader(new URL[] {place.toUri().toURL()})) {
            return (String[]) loader.loadClass("Example").getMethod("answers").invoke(null);
        }
    }

    private static void everyCallIsToldOf(Check check, String readme, String steps) {
        for (Method method : StageDispatcher.class.getDeclaredMethods()) {
            if (Modifier.isPublic(method.getModifiers())) {
                String name = method.getName();
                check.yes("the tables tell of " + name, readme.contains("| `" + name + "("));
                check.yes("the example uses " + name, name.equals("put") || steps.contains("." + name + "("));
            }
        }
    }
}
