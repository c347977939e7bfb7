import java.lang.reflect.Method;
import java.lang.reflect.Modifier;
import java.net.URL;
import java.net.URLClassLoader;
import java.nio.file.Files;
import java.nio.file.Path;
import java.util.ArrayList;
import java.util.Comparator;
import java.util.List;
import java.util.Set;
import java.util.TreeSet;
import java.util.regex.Matcher;
import java.util.regex.Pattern;
import java.util.stream.Stream;
import javax.tools.JavaCompiler;
import javax.tools.ToolProvider;

/** README.md's calls, compiled as they stand there and run one behind the other, have the answers that stand behind them. */
public final class ReadmeTest {
    /** A call with its answer, and perhaps why that is so. */
    private static final Pattern SHOWN = Pattern.compile("((?:town\\.)?(\\w+)\\(.*\\));\\s+// (-?\\d+)(?:: \\S.*)?");
    private static final Pattern MADE = Pattern.compile("LampTempers \\w+ = new LampTempers\\(\\);");
    private static int wrong = 0;

    private ReadmeTest() {
    }

    private static void check(boolean fine, String what) {
        if (!fine) {
            wrong++;
            System.out.println("README.md: " + what);
        }
    }

    /** Notes the rows whose answers are other ones; the program that README.md shows calls it. */
    public static void due(int line, int got, int want) {
        check(got == want, "line " + line + " answered " + got + ", it shows " + want);
    }

    /** The whole program: blocks that begin with a comment or with "static" are members, the others one behind the other. */
    private static String program(Set<String> called) throws Exception {
        StringBuilder members = new StringBuilder();
        StringBuilder body = new StringBuilder();
        for (Readme.Block block : Readme.blocks("java")) {
            String first = block.lines.isEmpty() ? "" : block.lines.get(0);
            if (first.startsWith("/**") || first.startsWith("static ")) {
                for (String line : block.lines) members.append(line).append('\n');
                continue;
            }
            int number = block.firstLine;
            for (String line : block.lines) {
                Matcher shown = SHOWN.matcher(line);
                if (shown.matches()) {
                    called.add(shown.group(2));
                    body.append("ReadmeTest.due(" + number + ", " + shown.group(1) + ", " + shown.group(3) + ");\n");
                } else {
                    check(MADE.matcher(line).matches(), "line " + number + " shows no answer: " + line);
                    body.append(line).append('\n');
                }
                number++;
            }
        }
        return "public final class Shown {\n" + members + "public static void main(String[] args) {\n" + body + "}\n}\n";
    }

    /** The tape can't be seen but by what becomes of it: the writer that is shown writes what the tests' own one does. */
    private static void writer(Class<?> shown) throws Exception {
        Method write = shown.getDeclaredMethod("write", LampTempers.class, String.class);
        write.setAccessible(true);
        String whole = "drinks 4 ".repeat(50).substring(0, 400);
        for (int length : new int[] {0, 1, 8, 19, 20, 21, 399, 400}) {
            LampTempers x = new LampTempers();
            x.feed(1, 2, 3, 4, 5);
            check((Integer) write.invoke(null, x, whole.substring(0, length)) == length && x.count(7) == length, length + " bytes are written");
        }
        LampTempers x = new LampTempers();
        check((Integer) write.invoke(null, x, whole + " ") == LampTempers.NONE, "401 bytes have no room");
        for (String text : new String[] {"\u0000\u0007\u0001", "\u0000w\u0001\u0000\u00ff\u0001", "\u0001\u0001\u0001".repeat(9)}) {
            LampTempers ours = Sentences.street(2);
            LampTempers theirs = Sentences.street(2);
            for (int i = 0; i < 2; i++) check(ours.lamp(i, 0, 9) == theirs.lamp(i, 0, 9), "lamps");
            Sentences.write(ours, text);
            write.invoke(null, theirs, text);
            check(ours.row() == theirs.row() && ours.ash() == theirs.ash() && ours.undo() == theirs.undo(), "a row is written");
        }
    }

    private static void run(String program) throws Exception {
        Path folder = Files.createTempDirectory("shown");
        try {
            Path source = folder.resolve("Shown.java");
            Files.writeString(source, program);
            JavaCompiler compiler = ToolProvider.getSystemJavaCompiler();
            String path = System.getProperty("java.class.path");
            int code = compiler.run(null, null, null, "-d", folder.toString(), "-cp", path, source.toString());
            check(code == 0, "what it shows does not compile");
            if (code != 0) return;
            try (URLClassLoader loader = new URLClassLoader(new URL[] {folder.toUri().toURL()}, ReadmeTest.class.getClassLoader())) {
                Class<?> shown = loader.loadClass("Shown");
                shown.getMethod("main", String[].class).invoke(null, (Object) new String[0]);
                writer(shown);
            }
        } finally {
            remove(folder);
        }
    }

    private static void remove(Path folder) throws Exception {
        List<Path> all = new ArrayList<>();
        try (Stream<Path> found = Files.walk(folder)) {
            found.sorted(Comparator.reverseOrder()).forEach(all::add);
        }
        for (Path one : all) Files.delete(one);
    }

    public static void main(String[] args) throws Exception {
        Set<String> called = new TreeSet<>();
        run(program(called));
        for (Method m : LampTempers.class.getDeclaredMethods()) {
            if (Modifier.isPublic(m.getModifiers())) check(called.contains(m.getName()), m.getName() + " is not shown");
        }
        System.out.println(wrong == 0 ? "README.md shows what is so" : wrong + " things are not as README.md shows them");
        if (wrong != 0) System.exit(1);
    }
}
