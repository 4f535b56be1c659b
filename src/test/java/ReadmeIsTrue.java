import java.io.IOException;
import java.lang.reflect.Method;
import java.lang.reflect.Modifier;
import java.net.URL;
import java.net.URLClassLoader;
import java.nio.charset.StandardCharsets;
import java.nio.file.Files;
import java.nio.file.Path;
import java.util.ArrayList;
import java.util.List;
import java.util.regex.Matcher;
import java.util.regex.Pattern;
import java.util.stream.Stream;
import javax.tools.JavaCompiler;
import javax.tools.ToolProvider;

/** README.md as it stands: its examples are compiled and answer what stands behind them, and it names every call and every test. */
public final class ReadmeIsTrue {
    private static final Path README = Path.of("README.md");
    private static final Path TESTS = Path.of("src/test/java");
    private static final Pattern BLOCK = Pattern.compile("```java\n(.*?)```", Pattern.DOTALL);
    private static final Pattern ASKED = Pattern.compile("(x\\.\\w+\\([^;]*\\));\\s*// (-?\\d+|[A-Z]+): \\S.*");

    private static int wrong = 0;
    private static int asked = 0;

    public static void main(String[] args) throws Exception {
        String page = Files.readString(README, StandardCharsets.UTF_8);
        Matcher block = BLOCK.matcher(page);
        List<String> examples = new ArrayList<>();
        while (block.find()) {
            examples.add(block.group(1));
        }
        check(!examples.isEmpty(), "there is no example");
        runExamples(examples);
        everyCallIsNamed(page);
        everyTestIsNamed(page);
        check(page.contains("\n    .ci/run\n") && Files.isExecutable(Path.of(".ci/run")), "how to run the tests");
        System.out.println(wrong == 0 ? asked + " calls of README.md are as due" : wrong + " things are not as due");
        if (wrong != 0) {
            System.exit(1);
        }
    }

    private static void check(boolean holds, String what) {
        if (!holds) {
            wrong++;
            System.out.println("README.md: " + what);
        }
    }

    /** The examples ask for this; it is public, as they are loaded by a loader of their own. */
    public static void due(String line, long got, long want) {
        asked++;
        check(got == want, line + " answered " + got);
    }

    private static void runExamples(List<String> examples) throws Exception {
        StringBuilder source = new StringBuilder("public final class Examples {\n    public static void all() {\n");
        for (String example : examples) {
            source.append("        {\n");
            for (String line : example.split("\n")) {
                source.append("            ").append(withItsAnswer(line)).append('\n');
            }
            source.append("        }\n");
        }
        source.append("    }\n}\n");
        Path room = Files.createTempDirectory("readme");
        Path file = Files.writeString(room.resolve("Examples.java"), source, StandardCharsets.UTF_8);
        JavaCompiler compiler = ToolProvider.getSystemJavaCompiler();
        int compiled = compiler.run(null, null, null, "--release", "17", "-cp", System.getProperty("java.class.path"), "-d", room.toString(), file.toString());
        check(compiled == 0, "an example does not compile");
        if (compiled == 0) {
            try (URLClassLoader loader = new URLClassLoader(new URL[] {room.toUri().toURL()}, ReadmeIsTrue.class.getClassLoader())) {
                loader.loadClass("Examples").getMethod("all").invoke(null);
            }
        }
        for (String name : new String[] {"Examples.java", "Examples.class"}) {
            Files.deleteIfExists(room.resolve(name));
        }
        Files.deleteIfExists(room);
    }

    /** A line that begins with a call must tell its answer. */
    private static String withItsAnswer(String line) {
        Matcher call = ASKED.matcher(line);
        if (!call.matches()) {
            check(!line.startsWith("x."), "no answer stands behind " + line);
            return line;
        }
        String answer = call.group(2);
        String want = Character.isLetter(answer.charAt(0)) ? "LastOchre." + answer : answer;
        return "ReadmeIsTrue.due(\"" + call.group(1).replace("\"", "\\\"") + "\", " + call.group(1) + ", " + want + ");";
    }

    private static void everyCallIsNamed(String page) {
        for (Method method : LastOchre.class.getDeclaredMethods()) {
            if (Modifier.isPublic(method.getModifiers())) {
                String row = "`" + method.getName() + "\\((\\w+(, \\w+){" + Math.max(0, method.getParameterCount() - 1) + "})?\\)`";
                Matcher named = Pattern.compile(row).matcher(page);
                check(named.find() && (named.group(1) == null) == (method.getParameterCount() == 0), "the call " + method.getName() + " is not named as it is");
            }
        }
        String[] refusals = {"`BAD` (" + LastOchre.BAD + ")", "`STATE` (" + LastOchre.STATE + ")", "`FULL` (" + LastOchre.FULL + ")",
            "`NONE` (" + LastOchre.NONE + ")", "`NO` (" + LastOchre.NO + ")"};
        for (String refusal : refusals) {
            check(page.contains(refusal), refusal + " is not named");
        }
    }

    private static void everyTestIsNamed(String page) throws IOException {
        String tests = page.substring(Math.max(0, page.indexOf("## Tests")));
        try (Stream<Path> files = Files.list(TESTS)) {
            for (Path file : (Iterable<Path>) files.sorted()::iterator) {
                String name = file.getFileName().toString().replace(".java", "");
                check(tests.contains("`" + name + "`"), "the test " + name + " is not named");
            }
        }
        Matcher named = Pattern.compile("`([A-Z]\\w+)`(?= \\(promises| \\(\\d|:)").matcher(tests);
        while (named.find()) {
            check(Files.isRegularFile(TESTS.resolve(named.group(1) + ".java")), "there is no test " + named.group(1));
        }
    }
}
