import java.io.File;
import java.io.IOException;
import java.lang.reflect.Method;
import java.lang.reflect.Modifier;
import java.net.URL;
import java.net.URLClassLoader;
import java.nio.file.Files;
import java.nio.file.Path;
import java.util.ArrayList;
import java.util.List;
import java.util.Set;
import java.util.TreeSet;
import java.util.regex.Matcher;
import java.util.regex.Pattern;
import javax.tools.ToolProvider;

/**
 * What README.md says is so: its examples are compiled and run, each call with the answer that stands behind it;
 * the tests it names are those that there are, and so is the command that runs them.
 */
public final class ReadmeTest {
    private static final Pattern EXAMPLE = Pattern.compile("(?ms)^```java\n(.*?)^```$");
    private static final Pattern ANSWERED = Pattern.compile("(x\\.(\\w+)\\(.*\\)); +// (-?\\d+)(:.*)?");
    private static final Path ROOT = root();
    private static final Check check = new Check();

    public static void main(String[] args) throws IOException, ReflectiveOperationException {
        String readme = Files.readString(ROOT.resolve("README.md"));
        examples(readme);
        testsNamed(readme);
        promisesNumbered();
        command(readme);
        pathsNamed(readme);
        check.end();
    }

    private static Path root() {
        String root = System.getenv("THROWN_OVER_ROOT");
        return Path.of(root == null ? "." : root);
    }

    private static void examples(String readme) throws IOException, ReflectiveOperationException {
        StringBuilder source = new StringBuilder("public final class Example {\n"
            + "static java.util.List<Object[]> all = new java.util.ArrayList<>();\n"
            + "static void due(String call, long got, long want) { all.add(new Object[] {call, got, want}); }\n");
        Set<String> shown = new TreeSet<>();
        int blocks = 0;
        Matcher example = EXAMPLE.matcher(readme);
        while (example.find()) {
            source.append("static void example").append(blocks).append("() {\n");
            for (String line : example.group(1).split("\n")) {
                source.append(answerCompared(line, shown)).append('\n');
            }
            source.append("}\n");
            blocks++;
        }
        source.append("public static java.util.List<Object[]> answers() {\n");
        for (int i = 0; i < blocks; i++) {
            source.append("example").append(i).append("();\n");
        }
        source.append("return all; }\n}\n");
        check.due("calls that no example shows", missing(shown), new TreeSet<String>());
        run(source.toString());
    }

    /** The line as it is run; a call of its own must bear its answer. */
    private static String answerCompared(String line, Set<String> shown) {
        Matcher answered = ANSWERED.matcher(line);
        if (!answered.matches()) {
            check.due("a call without its answer: " + line, line.startsWith("x."), false);
            return line;
        }
        shown.add(answered.group(2));
        String call = answered.group(1);
        return "due(\"" + call + "\", " + call + ", " + answered.group(3) + "L);";
    }

    private static Set<String> missing(Set<String> shown) {
        Set<String> missing = new TreeSet<>();
        for (Method method : ThrownOver.class.getDeclaredMethods()) {
            if (Modifier.isPublic(method.getModifiers()) && !shown.contains(method.getName())) {
                missing.add(method.getName());
            }
        }
        return missing;
    }

    private static void run(String source) throws IOException, ReflectiveOperationException {
        Path made = Files.createTempDirectory("readme");
        Path file = Files.writeString(made.resolve("Example.java"), source);
        int failed = ToolProvider.getSystemJavaCompiler().run(null, null, null, "-d", made.toString(),
            "-cp", System.getProperty("java.class.path"), file.toString());
        check.due("the compiler's exit code for README's examples", failed, 0);
        if (failed == 0) {
            try (URLClassLoader loader = new URLClassLoader(new URL[] {made.toUri().toURL()})) {
                List<?> answers = (List<?>) loader.loadClass("Example").getMethod("answers").invoke(null);
                check.due("README shows answers", answers.size() > 0, true);
                for (Object answer : answers) {
                    Object[] row = (Object[]) answer;
                    check.due("README: " + row[0], row[1], row[2]);
                }
            }
        }
        for (File left : made.toFile().listFiles()) {
            Files.delete(left.toPath());
        }
        Files.delete(made);
    }

    private static void testsNamed(String readme) {
        Set<String> named = new TreeSet<>();
        Matcher name = Pattern.compile("`(\\w+Test)`").matcher(readme);
        while (name.find()) {
            named.add(name.group(1));
        }
        Set<String> there = new TreeSet<>();
        for (String file : ROOT.resolve("src/test/java").toFile().list()) {
            if (file.endsWith("Test.java")) {
                there.add(file.substring(0, file.length() - ".java".length()));
            }
        }
        check.due("the tests that README names", named, there);
    }

    /** Each promise of the document has a method that bears its number. */
    private static void promisesNumbered() {
        Set<Integer> numbers = new TreeSet<>();
        Class<?>[] tests = {ShipTest.class, StormTest.class, OverboardTest.class, FloatedHomeTest.class,
            WhatThereIsTest.class};
        for (Class<?> test : tests) {
            for (Method method : test.getDeclaredMethods()) {
                Matcher number = Pattern.compile("(?:promise|And)(\\d+)").matcher(method.getName());
                while (number.find()) {
                    numbers.add(Integer.valueOf(number.group(1)));
                }
            }
        }
        Set<Integer> due = new TreeSet<>();
        for (int n = 1; n <= 33; n++) {
            due.add(n);
        }
        check.due("the promises that have a method of their number", numbers, due);
    }

    /** The one command told in a block of its own is there, can be run, and runs all that it is said to. */
    private static void command(String readme) throws IOException {
        List<String> commands = new ArrayList<>();
        for (String line : EXAMPLE.matcher(readme).replaceAll("").split("\n")) {
            if (line.startsWith("    ")) {
                commands.add(line.strip());
            }
        }
        check.due("the command that README names", commands, List.of(".ci/run"));
        Path script = ROOT.resolve(".ci/run");
        check.due(".ci/run can be run", Files.isExecutable(script), true);
        String lines = Files.readString(script);
        for (String part : List.of("src/main/java/ThrownOver.java", "/src/test/java/*Test.java", "/tests/*.java",
                "passed, $failed failed")) {
            check.due(".ci/run has " + part, lines.contains(part), true);
        }
    }

    private static void pathsNamed(String readme) {
        Matcher path = Pattern.compile("`((?:\\.\\./shared|src)/[\\w./]*)`").matcher(readme);
        int found = 0;
        while (path.find()) {
            found++;
            check.due(path.group(1) + " is there", Files.exists(ROOT.resolve(path.group(1))), true);
        }
        check.due("README names paths", found > 0, true);
    }
}
