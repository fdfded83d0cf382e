import java.io.IOException;
import java.lang.reflect.InvocationTargetException;
import java.net.URL;
import java.net.URLClassLoader;
import java.nio.file.Files;
import java.nio.file.Path;
import java.util.ArrayList;
import java.util.Comparator;
import java.util.List;
import java.util.regex.Matcher;
import java.util.regex.Pattern;
import java.util.stream.Stream;
import javax.tools.JavaCompiler;
import javax.tools.ToolProvider;

/** What README.md shows compiles and answers what stands behind it; the files that it names are there. */
public final class ReadmeTest {
    private static final Pattern BLOCK = Pattern.compile("```java\n(.*?)```", Pattern.DOTALL);
    private static final Pattern ANSWERED = Pattern.compile("(.*);\\s+// (-?\\d+|true|false)\\b.*");
    private static final Pattern TEST = Pattern.compile("`((?!EdgeTest)\\w+Test|Model|Check|Twins)`");
    private static final Path TESTS = Path.of("src/test/java");

    public static void main(String[] args) throws Exception {
        String readme = Doc.read(Path.of("README.md"));
        List<String> told = new ArrayList<>();
        String program = program(readme, told);
        Check.is("answers that the README tells", told.size() >= 20, true);
        List<String> answers = run(program);
        Check.is("answers", answers.size(), told.size());
        for (int i = 0; i < Math.min(told.size(), answers.size()); i++) {
            Check.is("README: '" + answers.get(i) + "', told '" + told.get(i) + "'", answers.get(i).equals(told.get(i)), true);
        }
        files(readme);
        commands(readme);
        Check.done();
    }

    /** The blocks as one class: the functions as they are, then one function with all the rest. */
    private static String program(String readme, List<String> told) {
        StringBuilder functions = new StringBuilder();
        StringBuilder statements = new StringBuilder();
        Matcher block = BLOCK.matcher(readme);
        while (block.find()) {
            if (block.group(1).startsWith("static ")) {
                functions.append(block.group(1));
                continue;
            }
            for (String line : block.group(1).split("\n")) {
                Matcher answered = ANSWERED.matcher(line);
                if (answered.matches()) {
                    String call = answered.group(1);
                    told.add(call + " = " + answered.group(2));
                    statements.append("a.add(\"").append(call).append(" = \" + (").append(call).append("));\n");
                } else {
                    statements.append(line).append('\n');
                }
            }
        }
        return "public final class Shown {\n" + functions + "public static java.util.List<String> answers() {\n"
            + "java.util.List<String> a = new java.util.ArrayList<>();\n" + statements + "return a;\n}\n}\n";
    }

    private static List<String> run(String program) throws IOException, ReflectiveOperationException {
        Path made = Files.createTempDirectory("readme");
        Path source = made.resolve("Shown.java");
        Files.writeString(source, program);
        JavaCompiler compiler = ToolProvider.getSystemJavaCompiler();
        int code = compiler.run(null, System.out, System.out, "-proc:none", "-d", made.toString(), source.toString(),
            "src/main/java/AfterTheLast.java");
        Check.is("what the README shows compiles", code, 0);
        List<String> answers = new ArrayList<>();
        if (code == 0) {
            try (URLClassLoader loader = new URLClassLoader(new URL[] {made.toUri().toURL()}, ReadmeTest.class.getClassLoader())) {
                for (Object answer : (List<?>) loader.loadClass("Shown").getMethod("answers").invoke(null)) {
                    answers.add(String.valueOf(answer));
                }
            } catch (InvocationTargetException e) {
                System.out.println("what the README shows threw " + e.getCause());
                Check.is("it throws nothing", false, true);
            }
        }
        clear(made);
        return answers;
    }

    private static void clear(Path directory) throws IOException {
        try (Stream<Path> files = Files.walk(directory)) {
            for (Path file : files.sorted(Comparator.reverseOrder()).toList()) {
                Files.delete(file);
            }
        }
    }

    /** Each test is named in the README, and whatever it names is there. */
    private static void files(String readme) throws IOException {
        Matcher named = TEST.matcher(readme);
        while (named.find()) {
            Check.is(named.group(1) + " is there", Files.exists(TESTS.resolve(named.group(1) + ".java")), true);
        }
        try (Stream<Path> files = Files.list(TESTS)) {
            for (Path file : files.toList()) {
                String name = file.getFileName().toString().replace(".java", "");
                if (name.endsWith("Test")) {
                    Check.is(name + " stands in the README", readme.contains("`" + name + "`"), true);
                }
            }
        }
    }

    private static void commands(String readme) {
        Check.is("how to run all tests", readme.contains("    bash .ci/run\n"), true);
        Check.is("what that runs is there", Files.isExecutable(Path.of(".ci/run")), true);
        Check.is("how to run one alone", readme.contains("    java -cp /tmp/out QuarterTest\n"), true);
        Check.is("what is compiled is there", Files.exists(Path.of("src/main/java/AfterTheLast.java")), true);
        for (String answer : new String[] {"NONE", "-2", "-3", "1 + 8 * its place"}) {
            Check.is("what " + answer + " means", readme.contains(answer), true);
        }
    }
}
