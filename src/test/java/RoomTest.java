import com.sun.management.ThreadMXBean;
import java.lang.management.ManagementFactory;

/** What 512 calls make is little, whichever they are: rows are made once and used again. */
public final class RoomTest {
    private static final long OBJECT = 400000;
    private static final long CALLS = 200000;
    private static int wrong = 0;

    private RoomTest() {
    }

    private static void check(String what, long limit, Runnable calls) {
        ThreadMXBean threads = (ThreadMXBean) ManagementFactory.getThreadMXBean();
        long thread = Thread.currentThread().getId();
        long before = threads.getThreadAllocatedBytes(thread);
        calls.run();
        long made = threads.getThreadAllocatedBytes(thread) - before;
        if (made > limit) {
            wrong++;
            System.out.println(what + " made " + made + " bytes");
        }
    }

    private static void due(String what, int got, int want) {
        if (got != want) {
            wrong++;
            System.out.println(what + " answered " + got + ", due is " + want);
        }
    }

    /** The dearest questions, each of a town that is another one than for the latest. */
    private static void questions(LampTempers x) {
        for (int i = 0; i < 60; i++) {
            x.put(0, 1, i % 6);
            x.round(i % 12, -1);
            x.worst(i % 6, 0, 0, 3, -1);
            x.hang(63, 7, 63, i, 0);
            x.shutters(0);
            x.would(-1, 0);
            x.changed(-1);
            x.drunk(i, 1, 2, 60);
            x.walk(0, 0, 11, 0, -1);
        }
    }

    private static void strangers(LampTempers x) {
        for (int i = 0; i < 250; i++) {
            x.terms(0, i % 10);
            x.stranger(-1);
        }
    }

    private static void texts(LampTempers x, String text) {
        for (int i = 0; i < 512 / 23; i++) {
            Sentences.write(x, text);
            due("law", x.law(), 0);
            x.back(0);
        }
    }

    private static void shortRounds(LampTempers x) {
        for (int i = 0; i < 170; i++) {
            // "light 0 at 0", with blanks behind it
            x.feed(0x6c696768, 0x74203020, 0x61742030, 0x20202020, 0x20202020);
            due("rounds", x.rounds(), 1);
            x.undo();
        }
    }

    private static void images(LampTempers x) {
        for (int i = 0; i < 256; i++) {
            x.image(1);
            x.back(0);
        }
    }

    public static void main(String[] args) {
        LampTempers warm = new LampTempers();
        check("ahead of all", Long.MAX_VALUE, () -> questions(warm));
        check("a new object", OBJECT, () -> new LampTempers().count(0));
        LampTempers full = Sentences.full();
        full.image(0);
        check("questions", CALLS, () -> questions(full));
        LampTempers ruled = Sentences.lamp();
        Sentences.rule(ruled, "shuns if minute%7=lamp;reaches near+9;drinks later+wind");
        check("strangers", CALLS, () -> strangers(ruled));
        LampTempers read = new LampTempers();
        read.image(0);
        String longest = "reaches " + Sentences.many("1", "+", 50) + Sentences.many(";shuns", "", 11);
        check("texts", CALLS, () -> texts(read, longest));
        LampTempers told = Sentences.lamp();
        check("rounds", CALLS, () -> shortRounds(told));
        LampTempers kept = Sentences.full();
        kept.image(0);
        check("images", CALLS, () -> images(kept));
        System.out.println(wrong == 0 ? "all has room" : wrong + " runs have no room");
        if (wrong != 0) System.exit(1);
    }
}
