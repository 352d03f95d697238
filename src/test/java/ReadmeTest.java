import java.io.IOException;
import java.lang.reflect.Field;
import java.lang.reflect.Method;
import java.lang.reflect.Modifier;
import java.net.URL;
import java.net.URLClassLoader;
import java.nio.file.Files;
import java.nio.file.Path;
import java.util.List;
import java.util.regex.Matcher;
import java.util.regex.Pattern;
import java.util.stream.Stream;
import javax.tools.ToolProvider;

/** README.md: its examples answer what stands behind them, and it names the whole face and every test. */
public final class ReadmeTest {
    private static final Checks CHECKS = new Checks("ReadmeTest");
    private static final Pattern BLOCK = Pattern.compile("(?ms)^```java\n(.*?)^```$");
    private static final Pattern ANSWERED = Pattern.compile("^(x\\..*?); +// (-?\\d+|[A-Z]+): .*$");

    public static void main(String[] args) throws Exception {
        String readme = Files.readString(Path.of("README.md"));
        everyCallAndConstantIsNamed(readme);
        everyTestIsNamed(readme);
        examplesAnswerAsTheySay(readme);
        CHECKS.end();
    }

    private static void everyCallAndConstantIsNamed(String readme) {
        for (Method m : FollowedPeaks.class.getDeclaredMethods()) {
            if (Modifier.isPublic(m.getModifiers())) {
                String row = "| `" + m.getName() + "(" + (m.getParameterCount() == 0 ? ")` |" : "");
                CHECKS.dueTrue("a row for " + m.getName(), readme.contains(row));
                CHECKS.dueTrue("an example of " + m.getName(), readme.contains("x." + m.getName() + "("));
            }
        }
        for (Field f : FollowedPeaks.class.getFields()) {
            CHECKS.dueTrue("the constant " + f.getName(), readme.contains("`" + f.getName() + "` (" + valueOf(f) + ")"));
        }
    }

    private static int valueOf(Field constant) {
        try {
            return constant.getInt(null);
        } catch (IllegalAccessException e) {
            throw new IllegalStateException(e);
        }
    }

    private static void everyTestIsNamed(String readme) throws IOException {
        try (Stream<Path> files = Files.list(Path.of("src/test/java"))) {
            for (Path file : files.toList()) {
                String name = file.getFileName().toString().replace(".java", "");
                CHECKS.dueTrue("the test " + name, !name.endsWith("Test") || readme.contains("`" + name + "`"));
            }
        }
    }

    private static void examplesAnswerAsTheySay(String readme) throws Exception {
        for (Object[] answer : answersOf(programOf(readme))) {
            CHECKS.due("README: " + answer[0], (Integer) answer[1], (Integer) answer[2]);
        }
    }

    /** All examples one behind another, on the same object, as they are read. */
    private static String programOf(String readme) {
        StringBuilder body = new StringBuilder();
        int answered = 0;
        Matcher block = BLOCK.matcher(readme);
        while (block.find()) {
            for (String line : block.group(1).split("\n")) {
                Matcher call = ANSWERED.matcher(line);
                if (call.matches()) {
                    answered++;
                    String want = call.group(2).matches("[A-Z]+") ? "FollowedPeaks." + call.group(2) : call.group(2);
                    body.append("answers.add(new Object[] {\"").append(call.group(1)).append("\", ")
                        .append(call.group(1)).append(", ").append(want).append("});\n");
                } else {
                    CHECKS.dueTrue("an example's line without an answer is no call: " + line, !line.startsWith("x."));
                    body.append(line).append("\n");
                }
            }
        }
        CHECKS.dueTrue("the examples have answers", answered > 0);
        return "public final class ReadmeExamples {\n"
            + "public static java.util.List<Object[]> answers() {\n"
            + "java.util.List<Object[]> answers = new java.util.ArrayList<>();\n" + body + "return answers;\n}\n}\n";
    }

    @SuppressWarnings("unchecked")
    private static List<Object[]> answersOf(String program) throws Exception {
        Path room = Files.createTempDirectory("readme");
        try {
            Path file = room.resolve("ReadmeExamples.java");
            Files.writeString(file, program);
            String classes = System.getProperty("java.class.path");
            int ended = ToolProvider.getSystemJavaCompiler().run(null, null, null, "-cp", classes, "-d",
                room.toString(), file.toString());
            CHECKS.due("README's examples compile", ended, 0);
            if (ended != 0) {
                return List.of();
            }
            try (URLClassLoader loader = new URLClassLoader(new URL[] {room.toUri().toURL()})) {
                return (List<Object[]>) loader.loadClass("ReadmeExamples").getMethod("answers").invoke(null);
            }
        } finally {
            removeAll(room);
        }
    }

    private static void removeAll(Path room) throws IOException {
        try (Stream<Path> files = Files.list(room)) {
            for (Path file : files.toList()) {
                Files.delete(file);
            }
        }
        Files.delete(room);
    }
}
