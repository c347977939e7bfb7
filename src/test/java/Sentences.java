import java.nio.charset.StandardCharsets;
import java.util.function.Supplier;

/** What the tests of boundary cases share: sentences of the document with their rows, texts, towns. */
final class Sentences {
    static final int MIN = Integer.MIN_VALUE;
    static final int MAX = Integer.MAX_VALUE;
    private static int wrong = 0;
    private static int sentences = 0;
    private static int row = 1;
    private static String sentence = "";

    /** A call with one of its numbers left open. */
    interface Call {
        int with(LampTempers x, int number);
    }

    private Sentences() {
    }

    /** The next rows are those of this sentence. */
    static void says(String text) {
        if (row == 0) fail("has no row");
        sentence = text;
        sentences++;
        row = 0;
    }

    static void due(int got, int want) {
        row++;
        if (got != want) fail("row " + row + " answered " + got + ", due is " + want);
    }

    private static void fail(String why) {
        wrong++;
        System.out.println("\"" + sentence + "\": " + why);
    }

    /** The first and the last number that can be, with their answers, and those that can't on both ends, each in a new town. */
    static void edges(Supplier<LampTempers> town, Call call, int low, int lowAnswer, int high, int highAnswer, int beyond) {
        due(call.with(town.get(), low), lowAnswer);
        due(call.with(town.get(), high), highAnswer);
        int[] outside = {low - 1, high + 1, MIN, MAX};
        for (int number : outside) due(call.with(town.get(), number), beyond);
    }

    static void finish() {
        if (row == 0) fail("has no row");
        System.out.println(wrong == 0 ? sentences + " sentences hold" : wrong + " answers are not as due");
        if (wrong != 0) System.exit(1);
    }

    /** Puts a text on the tape, which is empty. */
    static void write(LampTempers x, String text) {
        byte[] bytes = text.getBytes(StandardCharsets.ISO_8859_1);
        for (int i = 0; i < bytes.length; i += 20) {
            int[] five = new int[5];
            for (int k = 0; k < 20; k++) five[k / 4] = five[k / 4] << 8 | (i + k < bytes.length ? bytes[i + k] & 255 : 0);
            x.feed(five[0], five[1], five[2], five[3], five[4]);
        }
        x.end(bytes.length);
    }

    static int law(LampTempers x, String text) {
        write(x, text);
        return x.law();
    }

    /** The text becomes a law that is in force from now on. */
    static void rule(LampTempers x, String text) {
        int law = law(x, text);
        if (law < 0 || x.force(law) < -1) fail("the test's own law is refused: " + text);
    }

    static int rounds(LampTempers x, String text) {
        write(x, text);
        return x.rounds();
    }

    static int row(LampTempers x, int... bytes) {
        StringBuilder b = new StringBuilder();
        for (int one : bytes) b.append((char) one);
        write(x, b.toString());
        return x.row();
    }

    /** The fault of a law in a new town. */
    static int fault(String text) {
        LampTempers x = new LampTempers();
        law(x, text);
        return x.fault();
    }

    /** The fault of rounds in a new town. */
    static int roundsFault(String text) {
        LampTempers x = new LampTempers();
        rounds(x, text);
        return x.fault();
    }

    static String many(String one, String between, int n) {
        StringBuilder b = new StringBuilder(one);
        for (int i = 1; i < n; i++) b.append(between).append(one);
        return b.toString();
    }

    /** Corners 0 .. n in a row, each with a way to the next. */
    static LampTempers street(int ways) {
        LampTempers x = new LampTempers();
        for (int i = 0; i < ways; i++) x.way(i, i + 1);
        return x;
    }

    /** One lamp at a corner 5 without ways. */
    static LampTempers lamp() {
        LampTempers x = new LampTempers();
        x.lamp(5, 2, 100);
        return x;
    }

    /** As much of all as there may be; way i is from corner i to i + 1, the last nine from i - 11 to i - 9. */
    static LampTempers full() {
        LampTempers x = street(11);
        for (int i = 0; i < 9; i++) x.way(i, i + 2);
        for (int i = 0; i < 10; i++) x.lamp(i, i % 6, 100 + i);
        for (int i = 0; i < 24; i++) x.turn(i % 10, i, 1);
        for (int i = 0; i < 2; i++) {
            x.lantern(i, 100, 11);
            for (int k = 0; k < 15; k++) x.go(i, 11);
        }
        for (int i = 0; i < 6; i++) x.errand(i, i, 119);
        for (int i = 0; i < 6; i++) law(x, "drinks " + i);
        for (int i = 0; i < 8; i++) x.soot(i, i, 1);
        for (int i = 0; i < 20; i++) x.feed(0, 0, 0, 0, 0);
        return x;
    }
}
