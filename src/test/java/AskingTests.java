import java.util.ArrayList;
import java.util.Arrays;
import java.util.List;
import java.util.function.Supplier;
import java.util.function.ToIntFunction;

/** A question's answer is the same, whatever was asked ahead of it; and it is that of the town as it stands then. */
public final class AskingTests {
    private static final String LAW = "shuns if kind=other and near<2 and near>0-1;shuns if minute%9=mood and later=0 and near=2;"
        + "shuns if later=1 and kind+1=other and near<2;reaches kind%3;reaches 2 if lamp=0-1;drinks 1+kind%2;drinks 3 if minute>50+wind";
    private static final List<ToIntFunction<LampTempers>> QUESTIONS = questions();
    private static final List<ToIntFunction<LampTempers>> CHANGES = changes();
    private static int wrong = 0;

    /** A question with four numbers. */
    private interface Asked {
        int of(LampTempers x, int[] numbers);
    }

    private AskingTests() {
    }

    private static void due(String what, int got, int want) {
        if (got != want) {
            wrong++;
            System.out.println(what + " answered " + got + ", due is " + want);
        }
    }

    /** Lamps that flicker, run dry and are switched off; a lantern that walks; soot that some tales explain. */
    private static LampTempers town(boolean isRuled) {
        LampTempers x = Sentences.street(5);
        x.way(0, 5);
        x.way(2, 6);
        x.shutter(3, 1);
        int[][] lamps = {{0, 1, 100}, {1, 1, 200}, {2, 2, 40}, {4, 1, 240}, {5, 0, 90}};
        for (int[] lamp : lamps) x.lamp(lamp[0], lamp[1], lamp[2]);
        for (int i = 0; i < 5; i++) x.turn(i, 3 * i, 1);
        x.turn(0, 30, 0);
        x.turn(0, 41, 1);
        x.lantern(1, 20, 3);
        x.go(0, 2);
        x.go(0, 6);
        x.errand(2, 4, 6);
        x.errand(5, 20, 30);
        x.soot(2, 6, 1);
        x.soot(0, 1, 1);
        x.image(0);
        if (isRuled) {
            Sentences.rule(x, LAW);
            Sentences.law(x, "shuns if near=1;drinks 2");
        }
        x.image(1);
        return x;
    }

    private static List<ToIntFunction<LampTempers>> questions() {
        List<ToIntFunction<LampTempers>> all = new ArrayList<>(Arrays.asList(
            x -> x.night(-1, 0), x -> x.night(1, 1), x -> x.night(-1, 2), x -> x.burns(2, 40, 1), x -> x.burns(1, 60, 2),
            x -> x.bright(22), x -> x.bright(60), x -> x.judge(0), x -> x.judge(1), x -> x.judge(2),
            x -> x.round(2, -1), x -> x.round(2, 1), x -> x.round(6, 0), x -> x.far(3, 4, 1), x -> x.asks(0, 1, 9, 0), x -> x.asks(1, 0, 18, 0),
            x -> x.walk(1, 0, 4, 0, -1), x -> x.walk(3, 0, 4, 0, -1), x -> x.walk(1, 9, 4, 0, -1), x -> x.walk(1, 0, 3, 0, 2), x -> x.walk(1, 0, 4, 1, -1),
            x -> x.walk(1, 9, 1, 1, -1), x -> x.walk(1, 5, 1, 1, -1),
            x -> x.worst(1, 0, 2, 2, -1), x -> x.worst(2, 0, 2, 2, -1), x -> x.worst(1, 45, 2, 2, -1), x -> x.worst(1, 0, 4, 2, 0), x -> x.worst(1, 0, 2, 1, -1),
            x -> x.worst(1, 0, 2, 2, 1), x -> x.worst(5, 47, 11, 1, -1),
            x -> x.hang(63, 3, 31, 0, 0), x -> x.hang(31, 3, 31, 0, 1), x -> x.hang(63, 6, 31, 0, 1), x -> x.hang(63, 3, 7, 0, 1), x -> x.hang(63, 3, 31, 9, 1),
            x -> x.shutters(0), x -> x.shutters(1), x -> x.shutters(2), x -> x.would(-1, 0), x -> x.would(1, 0), x -> x.would(2, 1),
            x -> x.stranger(-1), x -> x.stranger(5), x -> x.changed(-1), x -> x.changed(3),
            x -> x.drunk(7, 1, 2, 40), x -> x.drunk(8, 1, 3, 60), x -> x.drunk(7, 2, 2, 9)));
        return all;
    }

    private static List<ToIntFunction<LampTempers>> changes() {
        return new ArrayList<>(Arrays.asList(
            x -> x.way(1, 5), x -> x.shutter(1, 1), x -> x.shutter(3, 0), x -> x.lamp(3, 1, 77), x -> x.put(1, 0, 4), x -> x.put(1, 1, 3),
            x -> x.put(1, 2, 9), x -> x.turn(3, 30, 0), x -> x.undo(), x -> x.lantern(2, 0, 1), x -> x.go(0, 2), x -> x.doused(), x -> x.errand(6, 0, 0),
            x -> x.terms(0, 9), x -> x.terms(1, 7), x -> x.terms(2, 4), x -> x.force(-1), x -> x.force(1), x -> x.soot(2, 28, 0), x -> x.soot(0, 6, 0),
            x -> x.sweep(), x -> x.back(0), x -> Sentences.row(x, 0, 1, 0, 1, 50, 1), x -> Sentences.rounds(x, "light run at 2 each 5 times 4"),
            x -> Sentences.law(x, "shuns") + x.force(2)));
    }

    private static void orders(boolean isRuled) {
        for (int first = 0; first < QUESTIONS.size(); first++) {
            LampTempers x = town(isRuled);
            int want = QUESTIONS.get(first).applyAsInt(x);
            for (int second = 0; second < QUESTIONS.size(); second++) {
                int got = QUESTIONS.get(second).applyAsInt(x);
                due("question " + second + " behind " + first, got, QUESTIONS.get(second).applyAsInt(town(isRuled)));
                due("question " + first + " behind " + second, QUESTIONS.get(first).applyAsInt(x), want);
            }
        }
    }

    private static void changed(boolean isRuled) {
        for (int change = 0; change < CHANGES.size(); change++) {
            for (int question = 0; question < QUESTIONS.size(); question++) {
                LampTempers asked = town(isRuled);
                QUESTIONS.get(question).applyAsInt(asked);
                CHANGES.get(change).applyAsInt(asked);
                LampTempers fresh = town(isRuled);
                CHANGES.get(change).applyAsInt(fresh);
                int want = QUESTIONS.get(question).applyAsInt(fresh);
                due("question " + question + " behind change " + change, QUESTIONS.get(question).applyAsInt(asked), want);
                if (asked.back(1) == 0) {
                    due("question " + question + " of the image", QUESTIONS.get(question).applyAsInt(asked),
                        QUESTIONS.get(question).applyAsInt(town(isRuled)));
                }
            }
        }
    }

    /** Questions whose numbers are alike, in all orders of two; a new town now and then, since calls have an end. */
    private static void pairs(String what, Supplier<LampTempers> town, int[][] numbers, Asked asked) {
        int[] want = new int[numbers.length];
        for (int i = 0; i < numbers.length; i++) want[i] = asked.of(town.get(), numbers[i]);
        LampTempers x = town.get();
        int pairs = 0;
        for (int first = 0; first < numbers.length; first++) {
            for (int second = 0; second < numbers.length; second++) {
                if (++pairs % 100 == 0) x = town.get();
                due(what + Arrays.toString(numbers[first]), asked.of(x, numbers[first]), want[first]);
                due(what + Arrays.toString(numbers[second]), asked.of(x, numbers[second]), want[second]);
            }
        }
    }

    /** All rows of three of these numbers and one of those. */
    private static int[][] rows(int[] these, int... those) {
        List<int[]> all = new ArrayList<>();
        for (int a : these) {
            for (int b : these) {
                for (int c : these) {
                    for (int d : those) all.add(new int[] {a, b, c, d});
                }
            }
        }
        return all.toArray(new int[0][]);
    }

    private static LampTempers bare() {
        LampTempers x = Sentences.street(5);
        Sentences.rule(x, "reaches kind+minute%4-1");
        return x;
    }

    /** The changes must be such that some answers are other ones, and the questions such that they are unlike. */
    private static void telling(boolean isRuled) {
        for (int change = 0; change < CHANGES.size(); change++) {
            int other = 0;
            for (ToIntFunction<LampTempers> question : QUESTIONS) {
                LampTempers x = town(isRuled);
                CHANGES.get(change).applyAsInt(x);
                if (question.applyAsInt(x) != question.applyAsInt(town(isRuled))) other++;
            }
            if (other == 0) System.out.println((isRuled ? "" : "without a law ") + "change " + change + " changes no answer");
        }
    }

    public static void main(String[] args) {
        for (boolean isRuled : new boolean[] {true, false}) {
            orders(isRuled);
            changed(isRuled);
            if (args.length > 0) telling(isRuled);
        }
        pairs("walk", () -> town(false), rows(new int[] {0, 1, 2, 3, 4}, 0, 1), (x, n) -> x.walk(n[0], n[1], n[2], n[3], -1));
        pairs("worst", () -> town(false), rows(new int[] {0, 1, 2}, 0, 1), (x, n) -> x.worst(n[0], n[1], n[2], n[3], -1));
        pairs("hang", AskingTests::bare, rows(new int[] {1, 2, 4}, 1, 2, 4), (x, n) -> x.hang(n[0], n[1], n[2], n[3], 2));
        System.out.println(wrong == 0 ? "all answers are those of the town" : wrong + " answers are not as due");
        if (wrong != 0) System.exit(1);
    }
}
