import java.io.IOException;
import java.nio.charset.StandardCharsets;
import java.nio.file.Files;
import java.nio.file.Path;
import java.util.ArrayList;
import java.util.Comparator;
import java.util.List;
import java.util.stream.Collectors;
import java.util.stream.Stream;

/**
 * The commands that README.md gives to run the tests run them all, and fail if one fails: they are given in a
 * folder that is like the project's, but whose tests tell only that they were run.
 */
public final class RunningTest {
    private static final Path TESTS = Path.of("src/test/java");
    private static final Path SHARED = Path.of("../shared/tests");
    private static final String CLASS = "public final class LampTempers { public static final int NONE = -1; }";
    private static final String ALONE = "PromiseTests";
    private static int wrong = 0;

    /** A folder like the project's, with the shared one beside it. */
    private static final class Copy {
        final Path top;
        final Path main;
        String told = "";

        Copy() throws IOException {
            top = Files.createTempDirectory("running");
            main = Files.createDirectory(top.resolve("main"));
            Files.createDirectories(main.resolve(TESTS));
            Files.createDirectories(main.resolve(SHARED).normalize());
            Files.createDirectory(main.resolve(".ci"));
            Files.copy(Path.of(".ci/run"), main.resolve(".ci/run"), java.nio.file.StandardCopyOption.COPY_ATTRIBUTES);
            Files.createDirectories(main.resolve("src/main/java"));
            write(Path.of("src/main/java"), "LampTempers", CLASS);
        }

        void write(Path folder, String name, String source) throws IOException {
            Files.writeString(main.resolve(folder).normalize().resolve(name + ".java"), source);
        }

        void remove(Path folder, String name) throws IOException {
            Files.delete(main.resolve(folder).normalize().resolve(name + ".java"));
        }

        boolean wasRun(String name) {
            return told.lines().filter(line -> line.equals(name + " was run")).count() == 1;
        }

        int run(String command) throws IOException, InterruptedException {
            Process process = new ProcessBuilder("sh", "-c", command).directory(main.toFile()).redirectErrorStream(true).start();
            told = new String(process.getInputStream().readAllBytes(), StandardCharsets.UTF_8);
            return process.waitFor();
        }

        void vanish() throws IOException {
            List<Path> all;
            try (Stream<Path> found = Files.walk(top)) {
                all = found.sorted(Comparator.reverseOrder()).collect(Collectors.toList());
            }
            for (Path one : all) Files.delete(one);
        }
    }

    /** What is done to a folder whose tests all pass, so that the command must fail. */
    private interface Harm {
        void to(Copy copy) throws IOException;
    }

    private RunningTest() {
    }

    private static synchronized void check(boolean fine, String what) {
        if (!fine) {
            wrong++;
            System.out.println("not so: " + what);
        }
    }

    /** A test that looks whether it stands beside the class, tells that it was run, and ends as told. */
    private static String test(String name, String end) {
        return "public final class " + name + " { public static void main(String[] args) {\n"
            + "if (LampTempers.NONE != -1 || !new java.io.File(\"src/main/java/LampTempers.java\").isFile()) System.exit(1);\n"
            + "System.out.println(\"" + name + " was run\");\n" + end + "\n} }\n";
    }

    private static List<String> names(Path folder, boolean isTest) throws IOException {
        List<String> names = new ArrayList<>();
        try (Stream<Path> found = Files.list(folder)) {
            for (Path one : found.sorted().collect(Collectors.toList())) {
                String name = one.getFileName().toString();
                if (name.endsWith(".java") && Files.readString(one).contains(" void main(") == isTest) {
                    names.add(name.substring(0, name.length() - 5));
                }
            }
        }
        return names;
    }

    /** All tests that there are, by their names. */
    private static void everything(String all, String alone) throws IOException, InterruptedException {
        Copy copy = new Copy();
        List<String> tests = names(TESTS, true);
        List<String> shared = names(SHARED, true);
        check(tests.contains("RunningTest") && tests.contains(ALONE) && shared.contains("LampTempersRuns"), "the tests are found");
        check(names(SHARED, false).isEmpty(), "all under ../shared/tests are tests");
        for (String name : tests) copy.write(TESTS, name, test(name, ""));
        for (String name : names(TESTS, false)) copy.write(TESTS, name, "final class " + name + " { }");
        for (String name : shared) copy.write(SHARED, name, test(name, ""));
        check(copy.run(all) == 0, "it passes, if all tests do: " + copy.told);
        for (String name : tests) check(copy.wasRun(name), name + " is run");
        for (String name : shared) check(copy.wasRun(name), name + " is run");
        check(copy.run(alone) == 0 && copy.wasRun(ALONE), "one test alone is run: " + copy.told);
        copy.write(TESTS, ALONE, test(ALONE, "System.exit(1);"));
        check(copy.run(alone) == 1 && copy.wasRun(ALONE), "one test alone fails: " + copy.told);
        copy.vanish();
    }

    /** Two tests of the project, two shared ones; others are run though one fails. */
    private static void failing(String all, String what, Harm harm, String... others) {
        try {
            Copy copy = new Copy();
            copy.write(TESTS, "First", test("First", ""));
            copy.write(TESTS, "Second", test("Second", ""));
            copy.write(SHARED, "LampTempersRuns", test("LampTempersRuns", ""));
            copy.write(SHARED, "More", test("More", ""));
            harm.to(copy);
            int code = copy.run(all);
            check(code != 0, "it fails, if " + what);
            for (String name : others) check(copy.wasRun(name), name + " is run, if " + what);
            copy.vanish();
        } catch (IOException | InterruptedException e) {
            check(false, what + ": " + e);
        }
    }

    private static void failures(String all) {
        List<Runnable> cases = List.of(
            () -> failing(all, "a test fails", c -> c.write(TESTS, "First", test("First", "System.exit(1);")),
                "First", "Second", "LampTempersRuns", "More"),
            () -> failing(all, "the last test fails", c -> c.write(TESTS, "Second", test("Second", "System.exit(1);")),
                "First", "Second", "LampTempersRuns", "More"),
            () -> failing(all, "a shared test fails", c -> c.write(SHARED, "LampTempersRuns", test("LampTempersRuns", "System.exit(1);")),
                "First", "Second", "LampTempersRuns", "More"),
            () -> failing(all, "a shared test that is new fails", c -> c.write(SHARED, "More", test("More", "System.exit(1);")),
                "First", "Second", "LampTempersRuns", "More"),
            () -> failing(all, "a shared test with its main method written otherwise fails", c -> c.write(SHARED, "More",
                test("More", "System.exit(1);").replace("public static void main(String[] args)", "static public final void main (String... args)")),
                "First", "Second", "LampTempersRuns", "More"),
            () -> failing(all, "a test throws", c -> c.write(TESTS, "First", test("First", "args[0] = \"\";")),
                "First", "Second", "LampTempersRuns", "More"),
            () -> failing(all, "a test does not compile", c -> c.write(TESTS, "First", test("First", "oops")),
                "Second", "LampTempersRuns", "More"),
            () -> failing(all, "a shared test does not compile", c -> c.write(SHARED, "More", test("More", "oops")),
                "First", "Second", "LampTempersRuns"),
            () -> failing(all, "the class does not compile", c -> c.write(Path.of("src/main/java"), "LampTempers", CLASS + "oops")),
            () -> failing(all, "there is no class", c -> c.remove(Path.of("src/main/java"), "LampTempers")),
            () -> failing(all, "the shared tests are missing", c -> c.remove(SHARED, "LampTempersRuns"), "First", "Second", "More"));
        cases.parallelStream().forEach(Runnable::run);
    }

    public static void main(String[] args) throws Exception {
        List<Readme.Block> commands = Readme.blocks("sh");
        check(commands.size() == 2, "README.md gives a way to run all tests, and one to run one alone");
        if (commands.size() == 2) {
            String all = String.join("\n", commands.get(0).lines);
            everything(all, String.join("\n", commands.get(1).lines));
            failures(all);
        }
        System.out.println(wrong == 0 ? "the tests are run as README.md tells" : wrong + " things are not as README.md tells");
        if (wrong != 0) System.exit(1);
    }
}
