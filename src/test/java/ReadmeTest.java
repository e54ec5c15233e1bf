import java.io.IOException;
import java.nio.charset.StandardCharsets;
import java.nio.file.Files;
import java.nio.file.Path;
import java.util.regex.Matcher;
import java.util.regex.Pattern;
import javax.tools.JavaCompiler;
import javax.tools.ToolProvider;

/** The examples of README.md answer what is written behind them. Run from the project's folder. */
public final class ReadmeTest {
    private static final Pattern BLOCK = Pattern.compile("(?s)```java\n(.*?)```");
    private static final Pattern ANSWERED = Pattern.compile("(.*\\));\\s*// (-?\\d+|true|false): .*");
    private static final int LEAST_ANSWERS = 15;

    public static void main(String[] args) throws Exception {
        String text = Files.readString(Path.of("README.md"), StandardCharsets.UTF_8);
        StringBuilder body = new StringBuilder();
        int answers = 0;
        Matcher block = BLOCK.matcher(text);
        while (block.find()) {
            for (String line : block.group(1).split("\n")) {
                Matcher answered = ANSWERED.matcher(line);
                boolean isAnswered = answered.matches();
                answers += isAnswered ? 1 : 0;
                body.append(isAnswered ? asked(answered.group(1), answered.group(2)) : line).append('\n');
            }
        }
        Checks checks = new Checks();
        checks.due("the examples have enough answers", answers >= LEAST_ANSWERS, true);
        everyCallIsNamed(checks, text);
        runExamples(body.toString());
        checks.end();
    }

    private static String asked(String call, String answer) {
        String name = call.replace("\"", "'");
        boolean isTruth = answer.equals("true") || answer.equals("false");
        return "checks.due(\"README: " + name + "\", " + call + ", " + answer + (isTruth ? "" : "L") + ");";
    }

    private static void everyCallIsNamed(Checks checks, String text) {
        for (java.lang.reflect.Method call : TalkingPlots.class.getMethods()) {
            if (call.getDeclaringClass() == TalkingPlots.class) {
                checks.due("README names " + call.getName(), text.contains("`" + call.getName() + "`"), true);
            }
        }
    }

    /** The examples are lines of a program, so they are compiled as one, beside this test's classes. */
    private static void runExamples(String body) throws IOException, InterruptedException {
        Path folder = Files.createTempDirectory("readme");
        Path source = folder.resolve("ReadmeExamples.java");
        String path = System.getProperty("java.class.path") + System.getProperty("path.separator") + folder;
        Files.writeString(source, "final class ReadmeExamples {\n"
                + "public static void main(String[] args) {\nChecks checks = new Checks();\n"
                + body + "checks.end();\n}\n}\n", StandardCharsets.UTF_8);
        JavaCompiler compiler = ToolProvider.getSystemJavaCompiler();
        int compiled = compiler.run(null, null, null, "-d", folder.toString(), "-cp", path, source.toString());
        int ended = compiled != 0 ? compiled : new ProcessBuilder(
                Path.of(System.getProperty("java.home"), "bin", "java").toString(), "-cp", path, "ReadmeExamples")
                .inheritIO().start().waitFor();
        Files.deleteIfExists(folder.resolve("ReadmeExamples.class"));
        Files.deleteIfExists(source);
        Files.deleteIfExists(folder);
        if (ended != 0) {
            System.exit(1);
        }
    }
}
