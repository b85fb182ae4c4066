import java.io.IOException;
import java.nio.file.Files;
import java.nio.file.Path;
import java.util.Comparator;
import java.util.List;
import java.util.stream.Collectors;
import java.util.stream.Stream;

/**
 * The command that README.md names to run the tests, in small projects made for it: it runs every
 * test, and fails if one fails, can't be compiled, or there are none.
 */
public final class RunTest {
    private static final String OWN = "main/src/test/java/";
    private static final String SHARED = "shared/tests/";
    private static final String[] TESTS = {OWN + "OneTest", OWN + "TwoTest", SHARED + "Three", SHARED + "Four"};

    private static final String NO_JAVA = "no Java";
    private static final String ENDS_WRONG = "System.exit(1);";
    private static final String ENDS_WELL = "";

    public static void main(String[] args) throws IOException, InterruptedException {
        List<String> commands = new Readme().commands();
        Due.due("README.md names one command to run the tests", commands.size(), 1);
        if (commands.size() == 1) {
            runs(commands.get(0));
        }
        Due.end();
    }

    private static void runs(String command) throws IOException, InterruptedException {
        expect(command, "all tests pass", "", ENDS_WELL, true, TESTS);
        expect(command, "the first own test fails", TESTS[0], ENDS_WRONG, false, TESTS);
        expect(command, "the first shared test fails", TESTS[3], ENDS_WRONG, false, TESTS);
        expect(command, "an own test isn't Java", TESTS[1], NO_JAVA, false, TESTS[2], TESTS[3]);
        expect(command, "a shared test isn't Java", TESTS[3], NO_JAVA, false, TESTS[0], TESTS[1], TESTS[2]);
        expect(command, "there is no own test", OWN, null, false, TESTS[2], TESTS[3]);
        expect(command, "there is no shared test", SHARED, null, false);
    }

    /** Runs the command where the tests whose path begins with changed have the body, or are gone. */
    private static void expect(String command, String what, String changed, String body, boolean passes, String... ran)
            throws IOException, InterruptedException {
        Path root = Files.createTempDirectory("run-test");
        try {
            project(root, changed, body);
            Path output = root.resolve("output");
            int exit = new ProcessBuilder("sh", "-c", command).directory(root.resolve("main").toFile())
                    .redirectErrorStream(true).redirectOutput(output.toFile()).start().waitFor();
            Due.due(what + ": " + command + " passes", exit == 0 ? 1 : 0, passes ? 1 : 0);
            List<String> lines = Files.readAllLines(output);
            for (String test : TESTS) {
                long due = List.of(ran).contains(test) ? 1 : 0;
                Due.due(what + ": " + test + " ran", lines.stream().filter(("ran " + name(test))::equals).count(), due);
            }
        } finally {
            delete(root);
        }
    }

    private static void project(Path root, String changed, String body) throws IOException {
        copy(root, ".ci/run");
        copy(root, "src/main/java/ZoneLookup.java");
        Files.createDirectories(root.resolve(OWN));
        Files.createDirectories(root.resolve(SHARED));
        for (String test : TESTS) {
            boolean isChanged = !changed.isEmpty() && test.startsWith(changed);
            if (!isChanged || body != null) {
                Files.writeString(root.resolve(test + ".java"), source(name(test), isChanged ? body : ENDS_WELL));
            }
        }
    }

    private static String source(String name, String body) {
        return "public final class " + name + " { public static void main(String[] args) {"
                + " System.out.println(\"ran \" + \"" + name + "\"); new ZoneLookup(); " + body + " } }\n";
    }

    private static String name(String test) {
        return test.substring(test.lastIndexOf('/') + 1);
    }

    private static void copy(Path root, String file) throws IOException {
        Path copy = root.resolve("main").resolve(file);
        Files.createDirectories(copy.getParent());
        Files.copy(Path.of(file), copy);
    }

    private static void delete(Path root) throws IOException {
        try (Stream<Path> below = Files.walk(root)) {
            for (Path path : below.sorted(Comparator.reverseOrder()).collect(Collectors.toList())) {
                Files.delete(path);
            }
        }
    }
}
