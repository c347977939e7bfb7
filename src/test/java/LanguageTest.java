import java.lang.reflect.Constructor;
import java.lang.reflect.Field;
import java.lang.reflect.Method;
import java.lang.reflect.Modifier;
import java.nio.file.Files;
import java.nio.file.Path;
import java.util.ArrayList;
import java.util.Arrays;
import java.util.HashMap;
import java.util.HashSet;
import java.util.List;
import java.util.Map;
import java.util.Set;
import java.util.TreeMap;
import java.util.TreeSet;
import java.util.regex.Matcher;
import java.util.regex.Pattern;

/** The face as the document tells it, and those rules of LANGUAGE.md that can be looked for in the text. */
public final class LanguageTest {
    private static final String FACE = "way2 shutter2 of2 far3 lamp3 put3 fact2 turn3 undo0 lantern3 go2 doused0 errand3 terms2 feed5 end1"
        + " row0 ash0 law0 rounds0 fault0 stopped0 force1 asks4 burns3 bright1 night2 judge1 round2 walk5 worst5 hang5 shutters1 would2"
        + " soot3 sweep0 stranger1 changed1 drunk4 drawn1 image1 back1 count1 status0";
    private static int wrong = 0;

    private static void check(boolean fine, String what) {
        if (!fine) {
            wrong++;
            System.out.println("not so: " + what);
        }
    }

    private static void face() throws ReflectiveOperationException {
        Class<?> c = LampTempers.class;
        check(Modifier.isPublic(c.getModifiers()) && Modifier.isFinal(c.getModifiers()), "a public final class");
        Set<String> due = new TreeSet<>(Arrays.asList(FACE.split(" ")));
        Set<String> found = new TreeSet<>();
        Set<String> names = new HashSet<>();
        for (Method m : c.getDeclaredMethods()) {
            if (Modifier.isPrivate(m.getModifiers())) continue;
            found.add(m.getName() + m.getParameterCount());
            names.add(m.getName());
            check(Modifier.isPublic(m.getModifiers()) && m.getReturnType() == int.class && !Modifier.isStatic(m.getModifiers()), m + " is of the face");
            for (Class<?> p : m.getParameterTypes()) check(p == int.class, m + " takes ints");
        }
        check(found.equals(due), "the face's methods: " + found);
        for (Constructor<?> k : c.getDeclaredConstructors()) check(k.getParameterCount() == 0 && Modifier.isPublic(k.getModifiers()), "the constructor");
        for (Field f : c.getDeclaredFields()) {
            boolean isNone = f.getName().equals("NONE");
            check(isNone == Modifier.isPublic(f.getModifiers()) && (isNone || Modifier.isPrivate(f.getModifiers())), f + " is private");
        }
        check(c.getDeclaredField("NONE").getInt(null) == -1, "NONE");
        int classes = 1 + c.getDeclaredClasses().length;
        check(classes <= 12, classes + " classes");
        for (Class<?> inner : c.getDeclaredClasses()) members(inner, names);
        members(c, new HashSet<>());
    }

    private static void members(Class<?> c, Set<String> names) {
        check(c == LampTempers.class || Modifier.isStatic(c.getModifiers()), c + " is static");
        int fields = 0;
        for (Field f : c.getDeclaredFields()) {
            if (!Modifier.isStatic(f.getModifiers())) fields++;
            else check(Modifier.isFinal(f.getModifiers()) && (f.getType().isPrimitive() || f.getType() == String.class), f + " is a constant");
        }
        check(fields <= 20, c + " has " + fields + " fields");
        for (Method m : c.getDeclaredMethods()) {
            check(m.getParameterCount() <= 7, m + " takes seven at most");
            check(!names.contains(m.getName()), m + " bears a name of the face");
        }
    }

    /** The text without comments, texts and signs. */
    private static String bare(String source) {
        return Pattern.compile("/\\*.*?\\*/|//[^\n]*|\"[^\"\n]*\"|'[^'\n]*'", Pattern.DOTALL).matcher(source)
            .replaceAll(m -> m.group().replaceAll("[^\n]", " "));
    }

    private static void text(String source) {
        String bare = bare(source);
        for (String word : ("throw throws try catch synchronized assert finally native volatile transient goto yield"
            + " Object Thread Random Math.random System.out System.err System.nanoTime System.currentTimeMillis package").split(" ")) {
            check(!Pattern.compile("(?<![A-Za-z_.])" + Pattern.quote(word) + "(?![A-Za-z_])").matcher(bare).find(), "no " + word);
        }
        check(!bare.contains("->") && !bare.contains("::") && !bare.contains("@") && !bare.contains("Exact("), "no lambda, no ...Exact");
        check(!source.chars().anyMatch(c -> c > 126), "signs to 126 alone");
        Matcher imports = Pattern.compile("import ([^;]*);").matcher(bare);
        while (imports.find()) check(imports.group(1).equals("java.util.Arrays"), "import " + imports.group(1));
        Matcher statics = Pattern.compile("(Integer|Long|Math|System|Arrays)\\.(\\w+)").matcher(bare);
        Set<String> allowed = new HashSet<>(Arrays.asList("System.arraycopy", "Arrays.fill", "Arrays.copyOf", "Arrays.copyOfRange"));
        for (String of : "compare max min abs signum bitCount floorDiv floorMod numberOfTrailingZeros numberOfLeadingZeros highestOneBit lowestOneBit".split(" ")) {
            for (String type : "Integer Long Math".split(" ")) allowed.add(type + "." + of);
        }
        while (statics.find()) check(allowed.contains(statics.group()), statics.group());
        check(!Pattern.compile("\"\\s*\\+|\\+\\s*\"").matcher(source).find(), "no texts joined by +");
        check(!Pattern.compile("while \\(true\\)|for \\(;;").matcher(bare).find(), "no loop without an end");
    }

    /** Methods by their lines, and who calls whom by name, to see how deep calls go. */
    private static void depths(String source) {
        String bare = bare(source);
        Pattern head = Pattern.compile("^( {4}| {8})(?:public |private )?(?:static )?(?:int|void|boolean|long|Text|[A-Z]\\w*)? ?(\\w+)\\(([^)]*)\\) \\{$", Pattern.MULTILINE);
        Matcher m = head.matcher(bare);
        Map<String, Set<String>> calls = new TreeMap<>();
        List<String> names = new ArrayList<>();
        Map<String, String> bodies = new HashMap<>();
        while (m.find()) {
            String indent = m.group(1);
            int end = bare.indexOf("\n" + indent + "}", m.end());
            String body = bare.substring(m.end(), end);
            int lines = body.split("\n", -1).length + 1;
            check(lines <= 60, m.group(2) + " has " + lines + " lines");
            names.add(m.group(2));
            bodies.merge(m.group(2), body, (a, b) -> a + b);
        }
        check(names.containsAll(Arrays.asList(FACE.replaceAll("[0-9]", "").split(" "))), "the methods are found");
        for (String name : bodies.keySet()) {
            Set<String> called = new TreeSet<>();
            Matcher c = Pattern.compile("(\\w+)\\(").matcher(bodies.get(name));
            while (c.find()) if (bodies.containsKey(c.group(1)) && !c.group(1).equals(name)) called.add(c.group(1));
            calls.put(name, called);
        }
        for (String name : FACE.replaceAll("[0-9]", "").split(" ")) {
            int depth = depth(name, calls, new HashSet<>());
            check(depth <= 8, name + " goes " + depth + " deep");
        }
    }

    /** Those that call one another, when brackets stand within brackets, are counted once each. */
    private static int depth(String name, Map<String, Set<String>> calls, Set<String> open) {
        if (!open.add(name)) return 0;
        int deepest = 0;
        for (String called : calls.getOrDefault(name, Set.of())) deepest = Math.max(deepest, depth(called, calls, open));
        open.remove(name);
        return deepest + 1;
    }

    public static void main(String[] args) throws Exception {
        String source = Files.readString(Path.of("src/main/java/LampTempers.java"));
        face();
        text(source);
        depths(source);
        System.out.println(wrong == 0 ? "the language is kept" : wrong + " rules are not kept");
        if (wrong != 0) System.exit(1);
    }
}
