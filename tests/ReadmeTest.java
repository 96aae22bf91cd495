import java.io.IOException;
import java.lang.reflect.Method;
import java.lang.reflect.Modifier;
import java.nio.file.Files;
import java.nio.file.Path;
import java.util.ArrayList;
import java.util.Comparator;
import java.util.List;
import java.util.stream.Stream;

/** What README.md tells to run runs as it is written there, and its example prints what it says. */
public final class ReadmeTest {
    private static final String[] CHECKOUT = {"README.md", ".ci", "src", "tests", "examples"};
    private static final String ALL_TESTS = ".ci/run";

    private ReadmeTest() {
    }

    /** What stands between the lines ```kind and ```. */
    private static List<String> blocks(String page, String kind) {
        List<String> blocks = new ArrayList<>();
        String opening = "```" + kind + "\n";
        int at = page.indexOf(opening);
        while (at >= 0) {
            int from = at + opening.length();
            int to = page.indexOf("```", from);
            blocks.add(page.substring(from, to));
            at = page.indexOf(opening, to);
        }
        return blocks;
    }

    /** What stands behind the lines that print. */
    private static String toldOutput(String example) {
        StringBuilder told = new StringBuilder();
        for (String line : example.split("\n")) {
            if (line.contains("System.out.println(")) {
                told.append(line.substring(line.indexOf("// ") + 3)).append('\n');
            }
        }
        return told.toString();
    }

    private static void copy(Path from, Path to) throws IOException {
        try (Stream<Path> paths = Files.walk(from)) {
            for (Path each : (Iterable<Path>) paths::iterator) {
                Files.copy(each, to.resolve(from.relativize(each).toString()));
            }
        }
    }

    private static void delete(Path top) throws IOException {
        try (Stream<Path> paths = Files.walk(top)) {
            for (Path each : (Iterable<Path>) paths.sorted(Comparator.reverseOrder())::iterator) {
                Files.delete(each);
            }
        }
    }

    /** Runs a command as a reader would; what it prints, ahead of its exit code. */
    private static String run(String command, Path in) throws IOException, InterruptedException {
        Process process = new ProcessBuilder("sh", "-c", command).directory(in.toFile())
            .redirectErrorStream(true).start();
        process.getOutputStream().close();
        String printed = new String(process.getInputStream().readAllBytes());
        return printed + "exit " + process.waitFor();
    }

    private static void commands(String page, String toldOutput, Path in) throws IOException, InterruptedException {
        boolean areAllTestsTold = false;
        boolean isExampleRun = false;
        boolean isOneTestRun = false;
        for (String block : blocks(page, "sh")) {
            for (String command : block.split("\n")) {
                if (command.equals(ALL_TESTS)) {
                    // It runs this test, so it is not run from here.
                    areAllTestsTold = true;
                    Check.due("README: " + command, Files.isExecutable(in.resolve(command)), true);
                    continue;
                }
                String printed = run(command, in);
                Check.due("README: " + command + " printed " + printed, printed.endsWith("exit 0"), true);
                if (command.endsWith(" Shop")) {
                    isExampleRun = true;
                    Check.due("README: what the example prints", printed, toldOutput + "exit 0");
                }
                isOneTestRun |= command.endsWith(" SalesTest") && printed.contains("SalesTest: ");
            }
        }
        Check.due("README: how all tests are run", areAllTestsTold, true);
        Check.due("README: how the example is run", isExampleRun, true);
        Check.due("README: how one test is run", isOneTestRun, true);
    }

    /** A command stands in a block, so that this test runs it; not in the midst of a line. */
    private static void noOtherCommands(String page) {
        String text = page.replaceAll("(?s)```.*?```", "");
        Check.due("README: a command beside the blocks",
            text.matches("(?s).*`(javac?|sh|\\./|\\.ci/)[^`]* [^`]*`.*"), false);
    }

    private static void allCalls(String page) {
        for (Method call : Bundlesale.class.getDeclaredMethods()) {
            if (Modifier.isPublic(call.getModifiers())) {
                Check.due("README: the call " + call.getName(), page.contains("`" + call.getName() + "`"), true);
            }
        }
    }

    private static void allTests(String page) throws IOException {
        try (Stream<Path> paths = Files.list(Path.of("tests"))) {
            for (Path each : (Iterable<Path>) paths::iterator) {
                String name = each.getFileName().toString().replace(".java", "");
                if (name.endsWith("Test")) {
                    Check.due("README: the test " + name, page.contains("`" + name + "`"), true);
                }
            }
        }
    }

    public static void main(String[] args) throws IOException, InterruptedException {
        String page = Files.readString(Path.of("README.md"));
        String example = Files.readString(Path.of("examples", "Shop.java"));
        Check.due("README: the example is the file", blocks(page, "java"), List.of(example));
        noOtherCommands(page);
        allCalls(page);
        allTests(page);
        Path top = Files.createTempDirectory("readme");
        try {
            Path in = Files.createDirectory(top.resolve("main"));
            for (String each : CHECKOUT) {
                copy(Path.of(each), in.resolve(each));
            }
            Files.createSymbolicLink(top.resolve("shared"), Path.of("..", "shared").toRealPath());
            commands(page, toldOutput(example), in);
        } finally {
            delete(top);
        }
        Check.end("ReadmeTest");
    }
}
