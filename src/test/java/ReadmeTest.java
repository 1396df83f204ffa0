import java.io.IOException;
import java.lang.reflect.InvocationTargetException;
import java.lang.reflect.Method;
import java.lang.reflect.Modifier;
import java.net.URL;
import java.net.URLClassLoader;
import java.nio.file.Files;
import java.nio.file.Path;
import java.util.Set;
import java.util.TreeSet;
import java.util.regex.Matcher;
import java.util.regex.Pattern;
import java.util.stream.Collectors;
import java.util.stream.Stream;
import javax.tools.JavaCompiler;
import javax.tools.ToolProvider;

/** README.md's examples, compiled as they stand and run, and its words on the tests. */
public final class ReadmeTest {
    private static final Path README = Path.of("README.md");
    private static final Path TESTS = Path.of("src/test/java");
    private static final Pattern BLOCK = Pattern.compile("(?s)```java\n(.*?)```");
    private static final Pattern ANSWERED = Pattern.compile("(\\S.*\\));\\s*// (-?\\d+)(:.*)?");
    private static int answers = 0;
    private static int wrong = 0;

    private static void check(boolean isWell, String what) {
        if (isWell) return;
        wrong++;
        System.out.println(what);
    }

    /** The examples' own calls answer here. */
    public static void due(String call, long got, long want) {
        answers++;
        check(got == want, call + " answered " + got + ", the README says " + want);
    }

    private static String examplesOf(String readme) {
        StringBuilder all = new StringBuilder();
        Matcher block = BLOCK.matcher(readme);
        while (block.find()) all.append(block.group(1));
        return all.toString();
    }

    /** A line that tells its answer is asked for it; any other stays as it stands. */
    private static String asProgram(String examples) {
        StringBuilder program = new StringBuilder("public final class ReadmeExamples {\npublic static void run() {\n");
        for (String line : examples.split("\n")) {
            Matcher answered = ANSWERED.matcher(line);
            if (answered.matches()) {
                String call = answered.group(1);
                program.append("ReadmeTest.due(\"" + call.replace("\"", "\\\"") + "\", " + call + ", " + answered.group(2) + "L);");
            } else {
                program.append(line);
            }
            program.append("\n");
        }
        return program.append("}\n}\n").toString();
    }

    private static void runExamples(String examples) throws IOException, ReflectiveOperationException {
        Path out = Files.createTempDirectory("readme");
        Path source = out.resolve("ReadmeExamples.java");
        Files.writeString(source, asProgram(examples));
        JavaCompiler compiler = ToolProvider.getSystemJavaCompiler();
        String path = System.getProperty("java.class.path");
        int exit = compiler.run(null, null, null, "-cp", path, "-d", out.toString(), source.toString());
        check(exit == 0, "the examples do not compile");
        if (exit == 0) runClass(out);
        Files.deleteIfExists(out.resolve("ReadmeExamples.class"));
        Files.delete(source);
        Files.delete(out);
    }

    private static void runClass(Path out) throws IOException, ReflectiveOperationException {
        try (URLClassLoader loader = new URLClassLoader(new URL[] {out.toUri().toURL()})) {
            loader.loadClass("ReadmeExamples").getMethod("run").invoke(null);
        } catch (InvocationTargetException thrown) {
            check(false, "an example threw " + thrown.getCause());
        }
    }

    private static void checkEachCallIsShown(String examples) {
        for (Method method : FrostDebts.class.getDeclaredMethods()) {
            if (!Modifier.isPublic(method.getModifiers())) continue;
            check(examples.contains("." + method.getName() + "("), "no example of " + method.getName());
        }
    }

    /** Every refusal and finding is shown by the number that it has. */
    private static void checkEachRefusalIsShown(String examples) {
        String[] refusals = {"-1: NONE", "-2: BAD", "-3: NOT", "-4: FULL", "-11: NULL", "-12: INDEX", "-13: CAST", "-14: STORE", "-15: SIZE"};
        for (String refusal : refusals) check(examples.contains("// " + refusal), "no example of " + refusal);
    }

    private static Set<String> namedTests(String readme) {
        Set<String> named = new TreeSet<>();
        Matcher name = Pattern.compile("`(\\w+(Test|Edges|Model))`").matcher(readme);
        while (name.find()) named.add(name.group(1));
        return named;
    }

    private static Set<String> testsThere() throws IOException {
        try (Stream<Path> files = Files.list(TESTS)) {
            return files.map(file -> file.getFileName().toString())
                .filter(file -> file.matches("\\w+(Test|Edges|Model)\\.java"))
                .map(file -> file.replace(".java", ""))
                .collect(Collectors.toCollection(TreeSet::new));
        }
    }

    public static void main(String[] args) throws IOException, ReflectiveOperationException {
        String readme = Files.readString(README);
        String examples = examplesOf(readme);
        runExamples(examples);
        checkEachCallIsShown(examples);
        checkEachRefusalIsShown(examples);
        Set<String> named = namedTests(readme);
        Set<String> there = testsThere();
        check(named.equals(there), "the README names " + named + ", there are " + there);
        System.out.println(answers + " answers of the README looked at, " + wrong + " wrong");
        if (wrong != 0 || answers == 0) System.exit(1);
    }
}
