import java.io.IOException;
import java.nio.charset.StandardCharsets;
import java.nio.file.Files;
import java.nio.file.Path;
import java.util.Comparator;
import java.util.List;
import java.util.stream.Collectors;
import java.util.stream.Stream;

/** .ci/run in small trees of its own: whether it fails when, and only when, a test does. */
public final class CiTest {
    private static final Path SCRIPT = Path.of(".ci/run");
    private static final String PASSES = "";
    private static final String FAILS = "System.exit(1);";
    private static final String THROWS = "throw new IllegalStateException();";
    private static final String NO_JAVA = "this is no Java";
    private static int trees = 0;
    private static int wrong = 0;

    private static void check(boolean isWell, String what) {
        if (isWell) return;
        wrong++;
        System.out.println(what);
    }

    private static String testNamed(String name, String body) {
        return "public final class " + name + " { public static void main(String[] args) {"
            + " System.out.println(\"" + name + " ran\"); " + body + " } }\n";
    }

    private static void write(Path file, String text) throws IOException {
        Files.createDirectories(file.getParent());
        Files.writeString(file, text);
    }

    /** A project with two tests beside one shared test, each with the body told; null leaves the shared one out. */
    private static Path makeTree(String first, String second, String shared) throws IOException {
        Path tree = Files.createTempDirectory("ci");
        Path project = tree.resolve("main");
        write(project.resolve("src/main/java/FrostDebts.java"), "public final class FrostDebts { }\n");
        write(project.resolve("src/test/java/FirstTest.java"), testNamed("FirstTest", first));
        write(project.resolve("src/test/java/SecondTest.java"), testNamed("SecondTest", second));
        if (shared != null) write(tree.resolve("shared/tests/SharedRuns.java"), testNamed("SharedRuns", shared));
        Files.createDirectories(project.resolve(".ci"));
        Files.copy(SCRIPT, project.resolve(SCRIPT));
        return tree;
    }

    private static void removeTree(Path tree) throws IOException {
        List<Path> inside;
        try (Stream<Path> walk = Files.walk(tree)) {
            inside = walk.sorted(Comparator.reverseOrder()).collect(Collectors.toList());
        }
        for (Path one : inside) Files.delete(one);
    }

    /** Runs the script from outside its project, so that it must find it; nor can it come upon this one and run it again. */
    private static void look(String told, boolean isDueToPass, String[] dueToRun, Path tree)
            throws IOException, InterruptedException {
        trees++;
        ProcessBuilder script = new ProcessBuilder("sh", tree.resolve("main").resolve(SCRIPT).toString());
        Process run = script.directory(tree.toFile()).redirectErrorStream(true).start();
        String output = new String(run.getInputStream().readAllBytes(), StandardCharsets.UTF_8);
        boolean passed = run.waitFor() == 0;
        check(passed == isDueToPass, told + (passed ? ": it passed" : ": it failed") + "\n" + output);
        for (String name : dueToRun) check(output.contains(name + " ran"), told + ": " + name + " did not run\n" + output);
        removeTree(tree);
    }

    public static void main(String[] args) throws IOException, InterruptedException {
        String[] all = {"FirstTest", "SecondTest", "SharedRuns"};
        String[] own = {"FirstTest", "SecondTest"};
        String[] none = {};
        check(Files.isExecutable(SCRIPT), ".ci/run cannot be executed");
        look("all pass", true, all, makeTree(PASSES, PASSES, PASSES));
        look("the first test fails", false, all, makeTree(FAILS, PASSES, PASSES));
        look("the last test throws", false, all, makeTree(PASSES, THROWS, PASSES));
        look("the shared test fails", false, all, makeTree(PASSES, PASSES, FAILS));
        look("a test does not compile", false, none, makeTree(NO_JAVA, PASSES, PASSES));
        look("the shared test does not compile", false, own, makeTree(PASSES, PASSES, NO_JAVA));
        look("there is no shared test", false, own, makeTree(PASSES, PASSES, null));
        System.out.println(trees + " trees looked at, " + wrong + " wrong");
        if (wrong != 0) System.exit(1);
    }
}
