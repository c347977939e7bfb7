import java.lang.reflect.Method;
import java.nio.charset.StandardCharsets;
import java.util.ArrayList;
import java.util.HashMap;
import java.util.List;
import java.util.Map;
import java.util.Random;

/** Runs of calls by draws (always the same ones), each answer held against the plain model's. */
public final class RandomRuns {
    private static final String[] NAMES = {"way", "shutter", "of", "far", "lamp", "put", "fact", "turn", "undo", "lantern", "go",
        "doused", "errand", "terms", "feed", "end", "row", "ash", "law", "rounds", "fault", "stopped", "force", "asks", "burns",
        "bright", "night", "judge", "round", "walk", "worst", "hang", "shutters", "would", "soot", "sweep", "stranger", "changed",
        "drunk", "drawn", "image", "back", "count", "status"};
    private static final Map<String, Method> OURS = new HashMap<>();
    private static final Map<String, Method> MODELS = new HashMap<>();

    private final Random draws;
    private final LampTempers ours = new LampTempers();
    private final Model model = new Model();
    private final List<String> told = new ArrayList<>();
    private final int corners;
    private final int kinds;
    private int calls = 0;
    private int hurt = 15;
    private boolean failed = false;

    private RandomRuns(long seed) {
        draws = new Random(seed);
        corners = 3 + draws.nextInt(10) % 7;
        kinds = 1 + draws.nextInt(6);
    }

    private int call(String name, int... args) {
        if (failed || calls == 512) return -1;
        calls++;
        Object[] boxed = new Object[args.length];
        for (int i = 0; i < args.length; i++) boxed[i] = args[i];
        try {
            int got = (Integer) OURS.get(name).invoke(ours, boxed);
            int want = (Integer) MODELS.get(name).invoke(model, boxed);
            told.add(name + java.util.Arrays.toString(args) + " -> " + got);
            if (got != want) {
                failed = true;
                told.add("   DUE: " + want);
            }
            return got;
        } catch (ReflectiveOperationException e) {
            failed = true;
            told.add(name + java.util.Arrays.toString(args) + " THREW " + e.getCause());
            e.printStackTrace();
            return -1;
        }
    }

    private int below(int n) {
        return draws.nextInt(n);
    }

    private boolean chance(int percent) {
        return below(100) < percent;
    }

    /** Mostly a number within, now and then one beside. */
    private int near(int low, int high) {
        if (chance(3)) {
            int[] odd = {low - 1, high + 1, -1, -2, 0, 1000, Integer.MAX_VALUE, Integer.MIN_VALUE};
            return odd[below(odd.length)];
        }
        return low + below(high - low + 1);
    }

    private int corner() {
        return chance(3) ? near(0, 11) : below(corners);
    }

    private int kind() {
        return chance(3) ? near(0, 5) : below(kinds);
    }

    private int lamp() {
        int lamps = model.s.lamps.size();
        return chance(4) || lamps == 0 ? near(0, 9) : below(lamps);
    }

    private int minute() {
        return chance(60) ? below(20) : near(0, 119);
    }

    private String pick(String... of) {
        return of[below(of.length)];
    }

    private String part(boolean law, int depth) {
        if (depth < 3 && chance(12)) return "[" + sum(law, depth + 1) + "]";
        if (chance(50)) return String.valueOf(chance(80) ? below(7) : chance(80) ? below(130) : 990 + below(13));
        return law ? pick("lamp", "kind", "other", "near", "later", "minute", "wind", "mood")
            : pick("lamps", "switches", "last", "done", "run", "wind");
    }

    private String term(boolean law, int depth) {
        StringBuilder b = new StringBuilder(part(law, depth));
        while (chance(20)) b.append(pick("*", " * ", "/", "%", " % ")).append(part(law, depth));
        return b.toString();
    }

    private String sum(boolean law, int depth) {
        StringBuilder b = new StringBuilder(term(law, depth));
        while (chance(30)) b.append(pick("+", "-", " - ", " + ")).append(term(law, depth));
        return b.toString();
    }

    private String plain(boolean law, int depth) {
        if (chance(15)) return "not " + plain(law, depth);
        if (depth < 4 && chance(15)) return "(" + test(law, depth + 1) + ")";
        return sum(law, depth) + pick("<", ">", "=", " = ", " < ") + sum(law, depth);
    }

    private String test(boolean law, int depth) {
        StringBuilder b = new StringBuilder(plain(law, depth));
        while (chance(30)) b.append(pick(" and ", " or ")).append(plain(law, depth));
        return b.toString();
    }

    private String lawClause() {
        String[] usual = {"shuns if kind=other and near<2", "shuns if near=1", "shuns if kind=other", "shuns if near>0 and near<3",
            "shuns if later=1 and kind=other", "shuns if lamp<3 and other>kind", "shuns if minute%7<3 and near<3", "reaches 2", "drinks 2",
            "reaches kind", "drinks kind+1", "drinks minute%3", "reaches minute%4", "shuns if mood>wind", "shuns if near<0",
            "shuns if near=2", "shuns if kind>other", "shuns if near<2 and not kind=other", "shuns", "shuns if later=0 and near<2", "reaches 2+other", "drinks 3+later", "reaches 2+near if lamp<0", "shuns if later=1"};
        if (chance(60)) return usual[below(usual.length)];
        StringBuilder b = new StringBuilder();
        b.append(chance(50) ? "shuns" : pick("reaches ", "drinks ") + sum(true, 0));
        if (chance(70)) b.append(" if ").append(test(true, 0));
        return b.toString();
    }

    private String roundClause() {
        int lamps = Math.max(1, model.s.lamps.size());
        StringBuilder b = new StringBuilder(pick("light ", "light ", "snuff "));
        b.append(chance(60) ? String.valueOf(below(lamps)) : chance(60) ? pick("run", "run%lamps", "done%lamps", "lamps-1") : sum(false, 0));
        b.append(" at ").append(chance(60) ? String.valueOf(below(30)) : chance(60) ? pick("last+1", "last+3", "run*5", "wind+done") : sum(false, 0));
        if (chance(40)) b.append(" each ").append(chance(80) ? String.valueOf(below(9)) : sum(false, 0));
        if (chance(40)) b.append(" times ").append(chance(90) ? 1 + below(5) : below(23));
        if (chance(30)) b.append(" if ").append(chance(50) ? pick("run<2", "switches<9", "lamps>run", "not done=0") : test(false, 0));
        return b.toString();
    }

    private String text(boolean law) {
        StringBuilder b = new StringBuilder();
        int clauses = chance(2) ? 14 : 1 + below(4);
        for (int i = 0; i < clauses; i++) {
            String clause = law ? lawClause() : roundClause();
            if (b.length() + clause.length() > 380) break;
            if (i > 0) b.append(pick(";", " ; ", "; "));
            b.append(clause);
        }
        if (chance(hurt)) hurt(b);
        if (chance(3)) return chance(50) ? "" : "   ";
        return b.toString();
    }

    /** A text that is not as it was somewhere. */
    private void hurt(StringBuilder b) {
        int at = below(b.length() + 1);
        String[] odd = {" ", ";", "(", ")", "[", "]", "x", "7", "%", "if", "\u00e9", "A", "not ", "0000000000000001", " and ", " or ", "=", "<",
            " at ", " each ", " times ", " 1001 ", " kind ", " run ", "((((((((", "[[[[[[[["};
        if (chance(40) && at < b.length()) b.delete(at, Math.min(b.length(), at + 1 + below(6)));
        else b.insert(at, odd[below(odd.length)]);
        if (b.length() > 400) b.setLength(400);
    }

    private void write(String text) {
        byte[] bytes = text.getBytes(StandardCharsets.ISO_8859_1);
        if (chance(95)) call("end", 0);
        int start = model.tape.length;
        for (int i = 0; i < bytes.length; i += 20) {
            int[] five = new int[5];
            for (int k = 0; k < 20; k++) {
                int b = i + k < bytes.length ? bytes[i + k] & 255 : below(256);
                five[k / 4] = five[k / 4] << 8 | b;
            }
            call("feed", five);
        }
        call("end", Math.min(400, start + bytes.length));
    }

    /** A town in which much happens: all corners joined, lamps on early and with much oil. */
    private void buildDense() {
        for (int i = 1; i < corners; i++) call("way", i, below(i));
        for (int i = below(4); i > 0; i--) call("way", corner(), corner());
        int lamps = 3 + below(4);
        for (int i = 0; i < lamps; i++) call("lamp", corner(), kind(), chance(70) ? 100 + below(141) : 1 + below(30));
        for (int i = 0; i < lamps; i++) call("turn", i, below(12), 1);
        for (int i = below(4); i > 0; i--) call("turn", below(lamps), minute(), below(2));
        if (chance(60)) writeLaw();
        if (chance(40)) {
            call("lantern", kind(), minute(), corner());
            for (int i = below(6); i > 0; i--) call("go", 0, corner());
        }
        if (chance(50)) for (int i = below(3); i >= 0; i--) call("soot", below(lamps), minute(), below(2));
        if (chance(50)) call("shutters", below(3));
        if (chance(50)) call("stranger", -1);
        if (chance(50)) call("changed", -1);
        if (chance(50)) call("would", -1, 0);
    }

    private void build() {
        if (chance(50)) {
            buildDense();
            return;
        }
        int ways = below(corners + 3);
        for (int i = 0; i < ways; i++) call("way", corner(), corner());
        int lamps = below(6);
        for (int i = 0; i < lamps; i++) call("lamp", corner(), kind(), chance(50) ? 1 + below(30) : near(1, 240));
        int switches = below(8);
        for (int i = 0; i < switches; i++) call("turn", lamp(), minute(), chance(80) ? 1 : 0);
        if (chance(50)) writeLaw();
    }

    private void writeLaw() {
        write(text(true));
        int law = call("law");
        call("fault");
        if (law >= 0) call("force", law);
    }

    private void step() {
        String name = NAMES[below(NAMES.length)];
        boolean big = model.s.ways.size() > 9 || model.s.lamps.size() > 6;
        switch (name) {
            case "way": if (model.s.ways.size() < 10 || chance(2)) call(name, corner(), corner()); break;
            case "shutter": call(name, near(0, Math.max(0, model.s.ways.size() - 1)), near(0, 1)); break;
            case "of": call(name, near(0, Math.max(0, model.s.ways.size() - 1)), near(0, 2)); break;
            case "far": call(name, corner(), corner(), near(0, 1)); break;
            case "lamp": if (model.s.lamps.size() < 6 || chance(5)) call(name, corner(), kind(), near(1, 240)); break;
            case "put": {
                int what = near(0, 2);
                call(name, lamp(), what, what == 0 ? corner() : what == 1 ? kind() : near(1, 240));
                break;
            }
            case "fact": call(name, lamp(), near(0, 2)); break;
            case "turn":
                for (int i = below(4); i >= 0; i--) call(name, lamp(), minute(), chance(75) ? 1 : near(0, 1));
                break;
            case "lantern": call(name, kind(), minute(), corner()); break;
            case "go":
                for (int i = below(8); i >= 0; i--) call(name, near(0, 1), corner());
                break;
            case "doused": if (chance(40)) call(name); break;
            case "errand": {
                int from = minute();
                call(name, corner(), from, chance(90) ? Math.min(119, from + below(10)) : minute());
                break;
            }
            case "terms": {
                int what = near(0, 2);
                call(name, what, near(0, 9));
                break;
            }
            case "feed": if (chance(30)) call(name, draws.nextInt(), draws.nextInt(), draws.nextInt(), draws.nextInt(), draws.nextInt()); break;
            case "end": call(name, near(0, model.tape.length)); break;
            case "row": {
                StringBuilder b = new StringBuilder();
                int rows = below(5);
                for (int i = 0; i < rows; i++) b.append((char) (chance(90) ? below(6) : below(256))).append((char) minuteByte()).append((char) (chance(90) ? below(2) : below(4)));
                for (int i = below(3); i > 0; i--) b.append((char) 0);
                write(b.toString());
                call(name);
                call("ash");
                break;
            }
            case "law": writeLaw(); break;
            case "rounds":
                write(text(false));
                call(name);
                call("fault");
                call("stopped");
                break;
            case "force": call(name, near(-1, model.s.laws.size() - 1)); break;
            case "asks": for (int i = 0; i < 4; i++) call(name, lamp(), lamp(), minute(), near(0, 2)); break;
            case "burns": for (int i = 0; i < 6; i++) call(name, lamp(), minute(), near(0, 3)); break;
            case "bright": for (int i = 0; i < 3; i++) call(name, minute()); break;
            case "night": for (int i = 0; i < 3; i++) call(name, chance(30) ? -1 : lamp(), near(0, 2)); break;
            case "judge": for (int i = 0; i < 3; i++) call(name, i); call(name, near(0, 2)); break;
            case "round": if (model.s.lamps.size() < 8) { int c = corner(); for (int i = -1; i < 3; i++) call(name, c, i); call(name, c, near(-1, 9)); } break;
            case "walk": {
                int from = corner(), minute = minute(), to = corner(), light = near(0, 1);
                for (int i = -1; i < 4; i++) call(name, from, minute, to, light, i);
                call(name, from, minute, to, light, near(-1, 120));
                break;
            }
            case "worst": if (!big && chance(60)) {
                int n = chance(90) ? below(3) : near(0, 3), kind = kind(), minute = minute(), c = corner();
                call(name, kind, minute, c, n, -1);
                if (n > 0) call(name, kind, minute, c, n, near(0, Math.min(3, n) - 1));
                break;
            } break;
            case "hang": {
                int sites = 0, kinds = 0, cs = 0;
                for (int i = below(5); i >= 0; i--) sites |= 1 << below(corners);
                for (int i = below(3); i >= 0; i--) kinds |= 1 << below(this.kinds);
                for (int i = below(4); i >= 0; i--) cs |= 1 << below(corners);
                if (chance(5)) sites = near(0, 4095);
                if (chance(5)) kinds = near(0, 63);
                if (chance(5)) cs = near(0, 4095);
                if (Integer.bitCount(sites) > 4 && chance(80)) break;
                int minute = minute();
                for (int what = 0; what < 3; what++) call(name, sites, kinds, cs, minute, what);
                call(name, sites, kinds, cs, minute, near(0, 7));
                break;
            }
            case "shutters": if (!big && chance(60)) { int what = near(0, 2); call(name, what); } break;
            case "would": if (!big && chance(70)) call(name, chance(40) ? -1 : lamp(), near(0, 1)); break;
            case "soot": call(name, lamp(), minute(), near(0, 1)); break;
            case "stranger": if (!big && chance(70)) { call(name, -1); call(name, near(0, 71)); } break;
            case "changed": if (!big) { call(name, -1); call(name, near(0, 20)); } break;
            case "drunk": call(name, near(0, 1000000), kind(), corner(), near(1, 60)); break;
            case "drawn": call(name, minute()); break;
            case "image": case "back": call(name, near(0, 1)); break;
            case "count": for (int i = -1; i < 18; i += 1 + below(6)) call(name, i); break;
            default: call(name); break;
        }
    }

    private int minuteByte() {
        return chance(90) ? below(30) : below(256);
    }

    /** Texts alone, most of them hurt, and what those mean that are not refused. */
    private void readTexts() {
        hurt = 60;
        for (int i = 1; i < 4; i++) call("way", i - 1, i);
        for (int i = 0; i < 4; i++) call("lamp", i, below(6), 9);
        call("terms", 0, below(10));
        call("terms", 2, below(10));
        call("image", 0);
        while (calls < 440 && !failed) {
            boolean law = chance(60);
            write(text(law));
            int answer = call(law ? "law" : "rounds");
            call("fault");
            if (!law) call("stopped");
            if (law && answer >= 0) {
                call("force", answer);
                for (int i = 0; i < 5; i++) call("asks", below(4), below(4), below(120), below(3));
            }
            for (int i = 0; !law && i < answer && i < 3; i++) call("undo");
            call("back", 0);
        }
    }

    private boolean run(long seed, int steps) {
        if (steps == 0) readTexts();
        else build();
        for (int i = 0; i < steps && !failed; i++) step();
        if (failed) {
            System.out.println("run by seed " + seed + ":");
            for (String line : told) System.out.println("  " + line);
        }
        return !failed;
    }

    public static void main(String[] args) throws ReflectiveOperationException {
        for (Method m : LampTempers.class.getDeclaredMethods()) OURS.put(m.getName(), m);
        for (String name : NAMES) {
            MODELS.put(name, Model.class.getDeclaredMethod(name, OURS.get(name).getParameterTypes()));
        }
        long first = args.length > 0 ? Long.parseLong(args[0]) : 1;
        long runs = args.length > 1 ? Long.parseLong(args[1]) : 150;
        int wrong = 0;
        for (long seed = first; seed < first + runs && wrong < 3; seed++) {
            if (!new RandomRuns(seed).run(seed, 90)) wrong++;
            for (int i = 0; i < 3; i++) if (!new RandomRuns(seed * 3 + i).run(seed * 3 + i, 0)) wrong++;
        }
        System.out.println(wrong == 0 ? "all answers are the model's" : wrong + " runs are not the model's");
        if (wrong != 0) System.exit(1);
    }
}
