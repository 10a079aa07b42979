import java.io.File;
import java.io.IOException;
import java.lang.reflect.Field;
import java.lang.reflect.Method;
import java.lang.reflect.Modifier;
import java.net.URL;
import java.net.URLClassLoader;
import java.nio.file.Files;
import java.nio.file.Path;
import java.util.ArrayList;
import java.util.List;
import java.util.regex.Matcher;
import java.util.regex.Pattern;
import javax.tools.ToolProvider;

/** README.md: its example is run as it stands there, and it leaves out no call, constant or test. */
public final class ReadmeTest {
    private static final Pattern BLOCK = Pattern.compile("```java\n(.*?)```", Pattern.DOTALL);
    /** A call on d, and behind it a comment that begins with the answer. */
    private static final Pattern LINE = Pattern.compile("d\\.(\\w+\\(.*?\\)); +// (true|false|-?\\d+)\\b.*");
    private static final String MAKING = "DatalogDelta d = new DatalogDelta();";

    public static void main(String[] args) throws Exception {
        String readme = Files.readString(Path.of("README.md"));
        namesEveryMember(readme);
        namesEveryTest(readme);
        example(readme);
        Check.finish();
    }

    private static void namesEveryMember(String readme) {
        for (Method method : DatalogDelta.class.getDeclaredMethods()) {
            if (Modifier.isPublic(method.getModifiers())) {
                named(readme, "| `" + method.getName() + "(");
            }
        }
        for (Field field : DatalogDelta.class.getDeclaredFields()) {
            if (Modifier.isPublic(field.getModifiers())) {
                named(readme, "`" + field.getName() + "` (");
            }
        }
    }

    private static void namesEveryTest(String readme) {
        for (File file : new File("src/test/java").listFiles()) {
            if (file.getName().endsWith("Test.java")) {
                named(readme, "| `" + file.getName().replace(".java", "") + "` |");
            }
        }
        named(readme, ".ci/run");
    }

    private static void named(String readme, String text) {
        Check.same("README.md has " + text, readme.contains(text), true);
    }

    private static void example(String readme) throws Exception {
        Matcher block = BLOCK.matcher(readme);
        Check.same("README.md has an example", block.find(), true);
        List<String> calls = new ArrayList<>();
        List<String> due = new ArrayList<>();
        String[] lines = block.group(1).split("\n");
        Check.same("README.md makes an object first", lines[0].equals(MAKING), true);
        for (int k = 1; k < lines.length; k++) {
            Matcher line = LINE.matcher(lines[k]);
            if (line.matches()) {
                calls.add("d." + line.group(1));
                due.add(line.group(2));
            } else {
                Check.same("README.md: a call and its answer: " + lines[k], false, true);
            }
        }
        Object[] answers = answers(calls);
        for (int k = 0; k < answers.length; k++) {
            String got = String.valueOf(answers[k]);
            Check.same("README.md: " + calls.get(k) + " answers " + got + "; that it is " + due.get(k),
                got.equals(due.get(k)), true);
        }
    }

    /** Compiles the calls, one behind the other on one object, and runs them. */
    private static Object[] answers(List<String> calls) throws Exception {
        String source = "public final class ReadmeExample { public static Object[] answers() { " + MAKING
            + " return new Object[] {" + String.join(", ", calls) + "}; } }";
        Path place = Files.createTempDirectory("readme");
        try {
            Path file = place.resolve("ReadmeExample.java");
            Files.writeString(file, source);
            int failed = ToolProvider.getSystemJavaCompiler().run(null, null, null,
                "-cp", System.getProperty("java.class.path"), "-d", place.toString(), file.toString());
            Check.same("README.md: the example compiles", failed, 0);
            if (failed != 0) {
                return new Object[0];
            }
            try (URLClassLoader loader = new URLClassLoader(new URL[] {place.toUri().toURL()})) {
                return (Object[]) loader.loadClass("ReadmeExample").getMethod("answers").invoke(null);
            }
        } finally {
            clear(place);
        }
    }

    private static void clear(Path place) throws IOException {
        for (File file : place.toFile().listFiles()) {
            Files.delete(file.toPath());
        }
        Files.delete(place);
    }
}
