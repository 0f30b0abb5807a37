import java.io.IOException;
import java.lang.reflect.Method;
import java.lang.reflect.Modifier;
import java.net.URL;
import java.net.URLClassLoader;
import java.nio.file.Files;
import java.nio.file.Path;
import java.util.ArrayList;
import java.util.List;
import java.util.regex.Matcher;
import java.util.regex.Pattern;
import javax.tools.ToolProvider;

/**
 * README.md's Java blocks, compiled and run as they stand there, one after another: each call with an
 * answer behind "//" must give that answer, so that neither the file nor the class can change alone.
 */
public final class ReadmeTest {
    private static final Path README = Path.of("README.md");
    /** A variable or none, the call, its answer, and words that are not compared. */
    private static final Pattern ANSWERED =
        Pattern.compile("(?:int (\\w+) = )?(tree\\.(\\w+)\\(.*\\)); +// (-?\\d+|true|false|NONE|FULL|STUCK)(?:: .*)?");
    private static final Check CHECK = new Check();

    /** A call with an answer; the variable is null when the answer has no name. */
    private record Call(String variable, String text, String method, String answer) {
        static Call of(String line) {
            Matcher parts = ANSWERED.matcher(line);
            return parts.matches() ? new Call(parts.group(1), parts.group(2), parts.group(3), parts.group(4)) : null;
        }

        String inJava() {
            String made = variable == null ? "" : "int " + variable + " = " + text + ";\n";
            return made + "answers.add(String.valueOf(" + (variable == null ? text : variable) + "));\n";
        }

        String due() {
            return switch (answer) {
                case "NONE" -> String.valueOf(RuleTree.NONE);
                case "FULL" -> String.valueOf(RuleTree.FULL);
                case "STUCK" -> String.valueOf(RuleTree.STUCK);
                default -> answer;
            };
        }
    }

    private ReadmeTest() {
    }

    public static void main(String[] args) throws IOException, ReflectiveOperationException {
        List<Call> calls = new ArrayList<>();
        StringBuilder java = new StringBuilder();
        CHECK.about("README.md, lines with an answer in a form that can be read");
        for (String line : javaBlocks(Files.readAllLines(README))) {
            Call call = Call.of(line);
            // An answer in another form would be passed over, and not be compared.
            CHECK.due(line, call == null && line.contains("//"), false);
            if (call == null) {
                java.append(line).append('\n');
            } else {
                java.append(call.inJava());
                calls.add(call);
            }
        }
        everyMethodIsShown(calls);
        everyAnswerIsSo(calls, answersOf(java.toString()));
        CHECK.end();
    }

    private static List<String> javaBlocks(List<String> lines) {
        List<String> code = new ArrayList<>();
        boolean inside = false;
        for (String line : lines) {
            if (line.startsWith("```")) {
                inside = line.equals("```java");
            } else if (inside) {
                code.add(line);
            }
        }
        return code;
    }

    private static void everyMethodIsShown(List<Call> calls) {
        CHECK.about("README.md, methods that are shown with an answer");
        for (Method method : RuleTree.class.getDeclaredMethods()) {
            if (Modifier.isPublic(method.getModifiers())) {
                boolean shown = calls.stream().anyMatch(call -> call.method().equals(method.getName()));
                CHECK.due(method.getName(), shown, true);
            }
        }
    }

    private static void everyAnswerIsSo(List<Call> calls, List<String> answers) {
        CHECK.about("README.md");
        CHECK.due("the calls that were made", answers.size(), calls.size());
        for (int i = 0; i < Math.min(answers.size(), calls.size()); i++) {
            CHECK.due(calls.get(i).text(), answers.get(i), calls.get(i).due());
        }
    }

    /** Compiles and runs the lines, which add to a list "answers"; it stays empty when they are no Java. */
    private static List<String> answersOf(String java) throws IOException, ReflectiveOperationException {
        List<String> answers = new ArrayList<>();
        Path directory = Files.createTempDirectory("readme");
        Path source = directory.resolve("ReadmeCalls.java");
        Files.writeString(source, "public final class ReadmeCalls {\n"
            + "public static void call(java.util.List<String> answers) {\n" + java + "}\n}\n");
        int failed = ToolProvider.getSystemJavaCompiler().run(null, null, null, "-proc:none",
            "-cp", System.getProperty("java.class.path"), "-d", directory.toString(), source.toString());
        CHECK.about("README.md, its blocks as Java");
        CHECK.due("the compiler", failed, 0);
        if (failed == 0) {
            try (URLClassLoader loader = new URLClassLoader(new URL[] {directory.toUri().toURL()})) {
                loader.loadClass("ReadmeCalls").getMethod("call", List.class).invoke(null, answers);
            }
        }
        Files.deleteIfExists(directory.resolve("ReadmeCalls.class"));
        Files.deleteIfExists(source);
        Files.deleteIfExists(directory);
        return answers;
    }
}
