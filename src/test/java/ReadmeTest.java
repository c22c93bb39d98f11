import java.io.IOException;
import java.net.URL;
import java.net.URLClassLoader;
import java.nio.file.Files;
import java.nio.file.Path;
import java.util.ArrayList;
import java.util.List;
import java.util.regex.Matcher;
import java.util.regex.Pattern;
import java.util.stream.Stream;
import javax.tools.ToolProvider;

/** README.md holds as it is written: its code compiles, its calls answer what stands behind them, its names are there. */
public final class ReadmeTest {
    private static final Checks CHECKS = new Checks("ReadmeTest");
    private static final Path TESTS = Path.of("src", "test", "java");
    private static final Pattern CODE = Pattern.compile("```java\n(.*?)```", Pattern.DOTALL);
    private static final Pattern CALL = Pattern.compile("(desk\\..*); +// (-?\\d+|true|false): .*");
    private static final Pattern TEST_NAME = Pattern.compile("`(\\w+Test)`");

    public static void main(String[] args) throws Exception {
        String readme = Files.readString(Path.of("README.md"));
        callsAnswerAsWritten(readme);
        everyCallIsNamed(readme);
        everyTestIsNamed(readme);
        theCommandsAreThere(readme);
        CHECKS.end();
    }

    private static void callsAnswerAsWritten(String readme) throws Exception {
        Matcher code = CODE.matcher(readme);
        List<String> blocks = new ArrayList<>();
        while (code.find()) {
            blocks.add(code.group(1));
        }
        CHECKS.due("a method and a run of calls", blocks.size(), 2);
        List<String> calls = new ArrayList<>();
        List<String> wanted = new ArrayList<>();
        StringBuilder source = new StringBuilder("public final class ReadmeRun {\n").append(blocks.get(0));
        source.append("public static java.util.List<String> run() {\njava.util.List<String> answers = new java.util.ArrayList<>();\n");
        for (String line : blocks.get(1).split("\n")) {
            Matcher call = CALL.matcher(line);
            if (call.matches()) {
                calls.add(call.group(1));
                wanted.add(call.group(2));
                source.append("answers.add(String.valueOf(").append(call.group(1)).append("));\n");
            } else {
                CHECKS.due("a line without an answer: " + line, line.isEmpty() || line.equals("ClodDesk desk = new ClodDesk();"), true);
                source.append(line).append('\n');
            }
        }
        List<?> answers = run(source.append("return answers;\n}\n}\n").toString());
        CHECKS.due("answers", answers.size(), calls.size());
        for (int i = 0; i < answers.size(); i++) {
            CHECKS.due(calls.get(i) + " answered " + answers.get(i) + ", in the README " + wanted.get(i),
                answers.get(i).equals(wanted.get(i)), true);
        }
    }

    private static List<?> run(String source) throws Exception {
        Path directory = Files.createTempDirectory("readme");
        try {
            Path file = Files.writeString(directory.resolve("ReadmeRun.java"), source);
            int failed = ToolProvider.getSystemJavaCompiler().run(null, null, null, "-proc:none", "-cp",
                System.getProperty("java.class.path"), "-d", directory.toString(), file.toString());
            CHECKS.due("the README's code does not compile", failed, 0);
            if (failed != 0) {
                return List.of();
            }
            try (URLClassLoader loader = new URLClassLoader(new URL[] {directory.toUri().toURL()})) {
                return (List<?>) loader.loadClass("ReadmeRun").getMethod("run").invoke(null);
            }
        } finally {
            remove(directory);
        }
    }

    private static void remove(Path directory) throws IOException {
        try (Stream<Path> files = Files.list(directory)) {
            for (Path file : files.toList()) {
                Files.delete(file);
            }
        }
        Files.delete(directory);
    }

    private static void everyCallIsNamed(String readme) {
        for (java.lang.reflect.Method m : ClodDesk.class.getDeclaredMethods()) {
            if (java.lang.reflect.Modifier.isPublic(m.getModifiers())) {
                CHECKS.due("`" + m.getName() + "` in the README", readme.contains("`" + m.getName() + "`"), true);
            }
        }
    }

    private static void everyTestIsNamed(String readme) throws IOException {
        List<String> names = new ArrayList<>();
        Matcher named = TEST_NAME.matcher(readme);
        while (named.find()) {
            names.add(named.group(1));
            CHECKS.due(named.group(1) + " is there", Files.isRegularFile(TESTS.resolve(named.group(1) + ".java")), true);
        }
        try (Stream<Path> files = Files.list(TESTS)) {
            for (Path file : files.toList()) {
                String name = file.getFileName().toString().replace(".java", "");
                CHECKS.due(name + " is in the README", names.contains(name) || !name.endsWith("Test"), true);
            }
        }
    }

    private static void theCommandsAreThere(String readme) {
        CHECKS.due(".ci/run can be run", Files.isExecutable(Path.of(".ci", "run")), true);
        Matcher one = Pattern.compile("\n    javac -d out (\\S+) (\\S+)/\\*\\.java && java -cp out (\\w+)\n").matcher(readme);
        CHECKS.due("how to run one test", one.find(), true);
        CHECKS.due("the class", Files.isRegularFile(Path.of(one.group(1))), true);
        CHECKS.due("the tests", Path.of(one.group(2)).equals(TESTS), true);
        CHECKS.due("the test", Files.isRegularFile(TESTS.resolve(one.group(3) + ".java")), true);
    }
}
