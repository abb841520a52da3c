import java.io.IOException;
import java.lang.reflect.Method;
import java.lang.reflect.Modifier;
import java.net.URL;
import java.net.URLClassLoader;
import java.nio.file.DirectoryStream;
import java.nio.file.Files;
import java.nio.file.Path;
import java.util.ArrayList;
import java.util.List;
import java.util.concurrent.Callable;
import java.util.function.BiConsumer;
import java.util.regex.Matcher;
import java.util.regex.Pattern;

/** The calls in README.md, compiled and run, answer what is written behind them. */
public final class ReadmeTest extends Checks {
    private static final Path README = Path.of("README.md");
    private static final Path TESTS = Path.of("src", "test", "java");
    /** A call, perhaps with a variable before it, and the answer that is told behind it. */
    private static final Pattern TOLD =
            Pattern.compile("(\\w+ (\\w+) = )?(calendar\\.\\w+\\(.*\\)); +// ([^:]+)(: .*)?");

    private final List<String> members = new ArrayList<>();
    private final List<String> statements = new ArrayList<>();
    private final List<String> calls = new ArrayList<>();
    private final List<String> answers = new ArrayList<>();
    private int asked = 0;

    /** A block that begins with "static" is a method; the others are what a method does, in their order. */
    private void read(List<String> lines) {
        boolean isJava = false;
        List<String> block = statements;
        for (int i = 0; i < lines.size(); i++) {
            String line = lines.get(i);
            if (line.startsWith("```")) {
                isJava = line.equals("```java");
                boolean isMethod = isJava && lines.get(i + 1).startsWith("static ");
                block = isMethod ? members : statements;
            } else if (isJava) {
                block.add(asking(line));
            }
        }
    }

    private String asking(String line) {
        Matcher told = TOLD.matcher(line);
        if (!told.matches()) {
            due("a line with an answer", line.contains("//"), false);
            return line;
        }
        calls.add(told.group(3));
        answers.add(told.group(4));
        String number = String.valueOf(calls.size() - 1);
        if (told.group(1) == null) {
            return "check.accept(" + number + ", () -> " + told.group(3) + ");";
        }
        return told.group(1) + told.group(3) + "; check.accept(" + number + ", () -> " + told.group(2) + ");";
    }

    private String program() {
        return "public final class ReadmeProgram {\n" + String.join("\n", members)
                + "\npublic static void run(java.util.function.BiConsumer<Integer, "
                + "java.util.concurrent.Callable<?>> check) {\n" + String.join("\n", statements) + "\n}\n}\n";
    }

    private void check(int number, Callable<?> call) {
        due("call " + number + " in their order", asked, number);
        asked++;
        due(calls.get(number), answer(call), answers.get(number));
    }

    private void compileAndRun(Path directory) throws Exception {
        Path file = directory.resolve("ReadmeProgram.java");
        Files.writeString(file, program());
        int failed = new ProcessBuilder("javac", "-cp", System.getProperty("java.class.path"),
                "-d", directory.toString(), file.toString()).inheritIO().start().waitFor();
        due("what its compiler answers", failed, 0);
        if (failed != 0) {
            return;
        }
        URL[] classes = {directory.toUri().toURL()};
        try (URLClassLoader loader = new URLClassLoader(classes, ReadmeTest.class.getClassLoader())) {
            Method run = loader.loadClass("ReadmeProgram").getMethod("run", BiConsumer.class);
            BiConsumer<Integer, Callable<?>> check = this::check;
            run.invoke(null, check);
        }
    }

    private static void delete(Path directory) throws IOException {
        try (DirectoryStream<Path> files = Files.newDirectoryStream(directory)) {
            for (Path file : files) {
                Files.delete(file);
            }
        }
        Files.delete(directory);
    }

    private static void callsAnswerWhatIsTold() {
        ReadmeTest test = new ReadmeTest();
        try {
            test.read(Files.readAllLines(README));
            Path directory = Files.createTempDirectory("readme");
            try {
                test.compileAndRun(directory);
            } finally {
                delete(directory);
            }
        } catch (Exception e) {
            due("the program in README.md", e, "nothing thrown");
        }
        due("how many calls were asked", test.asked, test.calls.size());
        due("there are some", test.asked > 30, true);
    }

    private static void allMethodsAreShown() {
        String readme = textOfReadme();
        for (Method method : RuledCalendar.class.getDeclaredMethods()) {
            if (Modifier.isPublic(method.getModifiers())) {
                due("a call of " + method.getName(), readme.contains("calendar." + method.getName() + "("), true);
            }
        }
    }

    private static void allTestsAreNamed() {
        String readme = textOfReadme();
        due("the script", readme.contains("`bash .ci/run`"), true);
        try (DirectoryStream<Path> files = Files.newDirectoryStream(TESTS, "*.java")) {
            for (Path file : files) {
                String name = file.getFileName().toString().replace(".java", "");
                due(name + " is named", readme.contains("`" + name + "`"), true);
            }
        } catch (IOException e) {
            due("the tests' directory", e, "there");
        }
    }

    private static String textOfReadme() {
        try {
            return Files.readString(README);
        } catch (IOException e) {
            due("README.md", e, "there");
            return "";
        }
    }

    public static void main(String[] args) {
        sentence("README.md: calls and answers are the class's own", ReadmeTest::callsAnswerWhatIsTold);
        sentence("README.md: how the class is used, by all its methods", ReadmeTest::allMethodsAreShown);
        sentence("README.md: how its tests are run", ReadmeTest::allTestsAreNamed);
        end();
    }
}
