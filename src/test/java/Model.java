import java.util.ArrayList;
import java.util.Arrays;
import java.util.HashMap;
import java.util.List;
import java.util.Map;

/**
 * The document once more, in its plainest and slowest form: nothing is kept, every night is run anew, every
 * choice is tried. The runs by draws (RandomRuns) hold the class against it.
 */
final class Model {
    static final class Broken extends Exception {
        private static final long serialVersionUID = 1L;
    }

    static final class Fault extends Exception {
        private static final long serialVersionUID = 1L;
        final int place;

        Fault(int place) {
            this.place = place;
        }
    }

    interface Sum {
        long of(Map<String, Integer> words) throws Broken;
    }

    interface Test {
        boolean of(Map<String, Integer> words) throws Broken;
    }

    static final class Clause {
        String verb;
        Sum first;
        Sum at;
        Sum each;
        int times = 1;
        Test test;
    }

    static final class State {
        List<int[]> ways = new ArrayList<>();
        List<int[]> lamps = new ArrayList<>();
        List<int[]> switches = new ArrayList<>();
        List<List<Integer>> lanterns = new ArrayList<>();
        List<int[]> errands = new ArrayList<>();
        List<int[]> soot = new ArrayList<>();
        List<List<Clause>> laws = new ArrayList<>();
        int[] terms = {0, 3, 0};
        int force = -1;

        State copy() {
            State s = new State();
            for (int[] x : ways) s.ways.add(x.clone());
            for (int[] x : lamps) s.lamps.add(x.clone());
            for (int[] x : switches) s.switches.add(x.clone());
            for (List<Integer> x : lanterns) s.lanterns.add(new ArrayList<>(x));
            for (int[] x : errands) s.errands.add(x.clone());
            for (int[] x : soot) s.soot.add(x.clone());
            s.laws.addAll(laws);
            s.terms = terms.clone();
            s.force = force;
            return s;
        }

        int far(int a, int b, boolean sight) {
            int[] d = new int[12];
            Arrays.fill(d, 99);
            d[a] = 0;
            for (int turn = 0; turn < 12; turn++) {
                for (int[] w : ways) {
                    if (sight && w[2] == 1) continue;
                    d[w[0]] = Math.min(d[w[0]], d[w[1]] + 1);
                    d[w[1]] = Math.min(d[w[1]], d[w[0]] + 1);
                }
            }
            return d[b] >= 99 ? -1 : d[b];
        }

        boolean joined(int a, int b) {
            for (int[] w : ways) {
                if (w[0] == a && w[1] == b || w[0] == b && w[1] == a) return true;
            }
            return false;
        }

        int lanternAt(int lantern, int minute) {
            List<Integer> l = lanterns.get(lantern);
            int from = l.get(1);
            if (minute < from) return -1;
            return l.get(Math.min(2 + minute - from, l.size() - 1));
        }

        Map<String, Integer> words(int lamp, int kind, int other, int near, int later, int minute) {
            Map<String, Integer> m = new HashMap<>();
            m.put("lamp", lamp);
            m.put("kind", kind);
            m.put("other", other);
            m.put("near", near);
            m.put("later", later);
            m.put("minute", minute);
            m.put("wind", terms[0]);
            m.put("mood", terms[2]);
            return m;
        }

        boolean shuns(int lamp, int kind, int other, int near, int later, int minute) {
            if (force < 0) return kind == other && near >= 0 && near <= 1;
            boolean does = false;
            for (Clause c : laws.get(force)) {
                if (!c.verb.equals("shuns")) continue;
                try {
                    if (c.test == null || c.test.of(words(lamp, kind, other, near, later, minute))) does = true;
                } catch (Broken b) {
                    continue;
                }
            }
            return does;
        }

        int tells(String verb, int lamp, int kind, int minute) {
            if (force < 0) return 1;
            int answer = 1;
            for (Clause c : laws.get(force)) {
                if (!c.verb.equals(verb)) continue;
                try {
                    Map<String, Integer> w = words(lamp, kind, -1, -1, -1, minute);
                    if (c.test == null || c.test.of(w)) {
                        long v = c.first.of(w);
                        answer = (int) (v < 0 ? 0 : v > 9 ? 9 : v);
                    }
                } catch (Broken b) {
                    continue;
                }
            }
            return answer;
        }

        int told(int lamp, int minute, int on) {
            if (minute < 0 || minute > 119 || on < 0 || on > 1) return -1;
            if (lamp < 0 || lamp >= lamps.size()) return -2;
            if (switches.size() == 24) return -5;
            switches.add(new int[] {lamp, minute, on});
            return 0;
        }
    }

    /** One night; burning is 0 off, 1 burns, 2 went out. */
    static final class Night {
        final boolean[][] lit;
        final boolean[][] out;
        final int[][] oil;

        Night(State s) {
            int n = s.lamps.size();
            lit = new boolean[120][n];
            out = new boolean[120][n];
            oil = new int[120][n];
            int[] state = new int[n];
            int[] since = new int[n];
            int[] outAt = new int[n];
            int[] left = new int[n];
            int[][] sight = new int[12][12];
            for (int a = 0; a < 12; a++) for (int b = 0; b < 12; b++) sight[a][b] = s.far(a, b, true);
            for (int i = 0; i < n; i++) left[i] = s.lamps.get(i)[2];
            for (int m = 0; m < 120; m++) {
                for (int[] sw : s.switches) {
                    if (sw[1] != m) continue;
                    if (sw[2] == 1 && left[sw[0]] > 0) {
                        state[sw[0]] = 1;
                        since[sw[0]] = m;
                    }
                    if (sw[2] == 0) state[sw[0]] = 0;
                }
                for (int i = 0; i < n; i++) {
                    if (state[i] == 2 && m - outAt[i] == s.terms[1]) {
                        state[i] = 1;
                        since[i] = m;
                    }
                }
                for (int a = 0; a < n; a++) {
                    if (state[a] != 1) continue;
                    int[] la = s.lamps.get(a);
                    for (int b = 0; b < n; b++) {
                        if (b == a || state[b] != 1) continue;
                        int[] lb = s.lamps.get(b);
                        int near = sight[la[0]][lb[0]];
                        boolean ab = s.shuns(a, la[1], lb[1], near, since[a] > since[b] ? 1 : 0, m);
                        boolean ba = s.shuns(b, lb[1], la[1], near, since[b] > since[a] ? 1 : 0, m);
                        boolean spared = ba && (since[b] > since[a] || since[b] == since[a] && b > a);
                        if (ab && !spared) out[m][a] = true;
                    }
                    for (int l = 0; l < s.lanterns.size(); l++) {
                        int at = s.lanternAt(l, m);
                        if (at >= 0 && s.shuns(a, la[1], s.lanterns.get(l).get(0), sight[la[0]][at], 1, m)) out[m][a] = true;
                    }
                }
                for (int a = 0; a < n; a++) {
                    if (out[m][a]) {
                        state[a] = 2;
                        outAt[a] = m;
                    } else if (state[a] == 1) {
                        lit[m][a] = true;
                        left[a] = Math.max(0, left[a] - s.tells("drinks", a, s.lamps.get(a)[1], m));
                        if (left[a] == 0) state[a] = 0;
                    }
                }
                oil[m] = left.clone();
            }
        }

        int minutesOf(int lamp) {
            int sum = 0;
            for (boolean[] m : lit) if (m[lamp]) sum++;
            return sum;
        }

        int all() {
            int sum = 0;
            for (boolean[] m : lit) for (boolean b : m) if (b) sum++;
            return sum;
        }

        boolean peaceful() {
            for (boolean[] m : out) for (boolean b : m) if (b) return false;
            return true;
        }
    }

    static final List<String> LAW_WORDS = Arrays.asList("lamp", "kind", "other", "near", "later", "minute", "wind", "mood");
    static final List<String> ROUND_WORDS = Arrays.asList("lamps", "switches", "last", "done", "run", "wind");

    /** Reads with the text in hand, as the grammar stands in the document. */
    static final class Parser {
        final List<String> tokens = new ArrayList<>();
        final List<Integer> places = new ArrayList<>();
        final List<String> words;
        int at = 0;
        int parts = 0;

        Parser(int[] bytes, List<String> words) {
            this.words = words;
            StringBuilder all = new StringBuilder();
            for (int b : bytes) all.append((char) b);
            java.util.regex.Matcher m = java.util.regex.Pattern.compile("[a-z]+|[0-9]+|[^ ]", java.util.regex.Pattern.DOTALL).matcher(all);
            while (m.find()) {
                tokens.add(m.group());
                places.add(m.start());
            }
            tokens.add("");
            places.add(bytes.length);
        }

        String now() {
            return tokens.get(at);
        }

        Fault fault() {
            return new Fault(places.get(at));
        }

        boolean takes(String t) {
            if (!now().equals(t)) return false;
            at++;
            return true;
        }

        void needs(String t) throws Fault {
            if (!takes(t)) throw fault();
        }

        List<Clause> text(boolean law) throws Fault {
            List<Clause> all = new ArrayList<>();
            do {
                if (all.size() == 12) throw fault();
                all.add(law ? lawClause() : roundClause());
            } while (takes(";"));
            if (!now().isEmpty()) throw fault();
            return all;
        }

        Clause lawClause() throws Fault {
            Clause c = new Clause();
            c.verb = now();
            if (!takes("shuns")) {
                if (!takes("reaches") && !takes("drinks")) throw fault();
                c.first = sum(0);
            }
            if (takes("if")) c.test = test(0);
            return c;
        }

        Clause roundClause() throws Fault {
            Clause c = new Clause();
            c.verb = now();
            if (!takes("light") && !takes("snuff")) throw fault();
            c.first = sum(0);
            needs("at");
            c.at = sum(0);
            if (takes("each")) c.each = sum(0);
            if (takes("times")) {
                if (!now().matches("0*([1-9]|1[0-9]|20)")) throw fault();
                c.times = Integer.parseInt(now());
                at++;
            }
            if (takes("if")) c.test = test(0);
            return c;
        }

        Test test(int depth) throws Fault {
            Test left = both(depth);
            while (takes("or")) {
                Test a = left;
                Test b = both(depth);
                left = w -> a.of(w) || b.of(w);
            }
            return left;
        }

        Test both(int depth) throws Fault {
            Test left = plain(depth);
            while (takes("and")) {
                Test a = left;
                Test b = plain(depth);
                left = w -> a.of(w) && b.of(w);
            }
            return left;
        }

        Test plain(int depth) throws Fault {
            if (takes("not")) {
                Test a = plain(depth);
                return w -> !a.of(w);
            }
            if (now().equals("(")) {
                if (depth == 8) throw fault();
                at++;
                Test a = test(depth + 1);
                needs(")");
                return a;
            }
            Sum a = sum(depth);
            String sign = now();
            if (!takes("<") && !takes(">") && !takes("=")) throw fault();
            Sum b = sum(depth);
            return w -> {
                long x = a.of(w);
                long y = b.of(w);
                return sign.equals("<") ? x < y : sign.equals(">") ? x > y : x == y;
            };
        }

        static long checked(long v) throws Broken {
            if (v > 1000000000L || v < -1000000000L) throw new Broken();
            return v;
        }

        Sum sum(int depth) throws Fault {
            Sum left = term(depth);
            while (now().equals("+") || now().equals("-")) {
                int sign = takes("+") ? 1 : -1;
                if (sign < 0) at++;
                Sum a = left;
                Sum b = term(depth);
                left = w -> checked(a.of(w) + sign * b.of(w));
            }
            return left;
        }

        Sum term(int depth) throws Fault {
            Sum left = part(depth);
            while (now().equals("*") || now().equals("/") || now().equals("%")) {
                String sign = now();
                at++;
                Sum a = left;
                Sum b = part(depth);
                left = w -> {
                    long x = a.of(w);
                    long y = b.of(w);
                    if (sign.equals("*")) return checked(x * y);
                    if (y == 0) throw new Broken();
                    long q = Math.abs(x) / Math.abs(y);
                    if (x < 0 != y < 0) q = -q;
                    return sign.equals("/") ? q : x - q * y;
                };
            }
            return left;
        }

        Sum part(int depth) throws Fault {
            if (now().equals("[")) {
                if (depth == 8) throw fault();
                at++;
                Sum a = sum(depth + 1);
                needs("]");
                return a;
            }
            String t = now();
            boolean number = t.matches("[0-9]+") && new java.math.BigInteger(t).intValue() <= 1000
                && new java.math.BigInteger(t).bitLength() < 20;
            if (!number && !words.contains(t) || parts == 50) throw fault();
            parts++;
            at++;
            if (number) {
                long v = Long.parseLong(t);
                return w -> v;
            }
            return w -> w.get(t);
        }
    }

    State s = new State();
    final State[] images = new State[2];
    int[] tape = {};
    int fault = -1;
    int ash = 0;
    int stopped = -1;
    int status = 0;
    final int[] refused = new int[7];
    int[] drawn = null;

    static boolean out(int v, int low, int high) {
        return v < low || v > high;
    }

    int no(int why) {
        status = why;
        refused[-why]++;
        return why;
    }

    int yes(int answer) {
        status = 0;
        return answer;
    }

    int way(int a, int b) {
        if (out(a, 0, 11) || out(b, 0, 11) || a == b) return no(-1);
        if (s.joined(a, b)) return no(-3);
        if (s.ways.size() == 20) return no(-5);
        s.ways.add(new int[] {Math.min(a, b), Math.max(a, b), 0});
        return yes(s.ways.size() - 1);
    }

    int shutter(int way, int is) {
        if (out(is, 0, 1)) return no(-1);
        if (out(way, 0, s.ways.size() - 1)) return no(-2);
        int was = s.ways.get(way)[2];
        s.ways.get(way)[2] = is;
        return yes(was);
    }

    int of(int way, int what) {
        return out(way, 0, s.ways.size() - 1) || out(what, 0, 2) ? -1 : s.ways.get(way)[what];
    }

    int far(int a, int b, int what) {
        return out(a, 0, 11) || out(b, 0, 11) || out(what, 0, 1) ? -1 : s.far(a, b, what == 1);
    }

    int lamp(int corner, int kind, int oil) {
        if (out(corner, 0, 11) || out(kind, 0, 5) || out(oil, 1, 240)) return no(-1);
        if (s.lamps.size() == 10) return no(-5);
        s.lamps.add(new int[] {corner, kind, oil});
        return yes(s.lamps.size() - 1);
    }

    int put(int lamp, int what, int value) {
        if (out(what, 0, 2) || what == 0 && out(value, 0, 11) || what == 1 && out(value, 0, 5) || what == 2 && out(value, 1, 240)) return no(-1);
        if (out(lamp, 0, s.lamps.size() - 1)) return no(-2);
        int was = s.lamps.get(lamp)[what];
        s.lamps.get(lamp)[what] = value;
        return yes(was);
    }

    int fact(int lamp, int what) {
        return out(lamp, 0, s.lamps.size() - 1) || out(what, 0, 2) ? -1 : s.lamps.get(lamp)[what];
    }

    int turn(int lamp, int minute, int on) {
        int why = s.told(lamp, minute, on);
        return why == 0 ? yes(s.switches.size()) : no(why);
    }

    int undo() {
        return s.switches.isEmpty() ? no(-3) : yes(s.switches.remove(s.switches.size() - 1)[1]);
    }

    int lantern(int kind, int minute, int corner) {
        if (out(kind, 0, 5) || out(minute, 0, 119) || out(corner, 0, 11)) return no(-1);
        if (s.lanterns.size() == 2) return no(-5);
        s.lanterns.add(new ArrayList<>(Arrays.asList(kind, minute, corner)));
        return yes(s.lanterns.size() - 1);
    }

    int go(int lantern, int corner) {
        if (out(corner, 0, 11)) return no(-1);
        if (out(lantern, 0, s.lanterns.size() - 1)) return no(-2);
        List<Integer> l = s.lanterns.get(lantern);
        int at = l.get(l.size() - 1);
        if (at != corner && !s.joined(at, corner)) return no(-3);
        if (l.size() == 18) return no(-5);
        l.add(corner);
        return yes(l.size() - 3);
    }

    int doused() {
        int were = s.lanterns.size();
        s.lanterns.clear();
        return were;
    }

    int errand(int corner, int from, int till) {
        if (out(corner, 0, 11) || out(from, 0, 119) || out(till, from, 119)) return no(-1);
        if (s.errands.size() == 6) return no(-5);
        s.errands.add(new int[] {corner, from, till});
        return yes(s.errands.size() - 1);
    }

    int terms(int what, int value) {
        if (out(what, 0, 2) || out(value, what == 1 ? 1 : 0, 9)) return no(-1);
        int was = s.terms[what];
        s.terms[what] = value;
        return yes(was);
    }

    int feed(int a, int b, int c, int d, int e) {
        int[] five = {a, b, c, d, e};
        if (tape.length + 20 > 400) return -1;
        int[] longer = Arrays.copyOf(tape, tape.length + 20);
        for (int i = 0; i < 20; i++) longer[tape.length + i] = five[i / 4] >>> 24 - i % 4 * 8 & 255;
        tape = longer;
        return tape.length;
    }

    int end(int n) {
        if (out(n, 0, tape.length)) return -1;
        tape = Arrays.copyOf(tape, n);
        return n;
    }

    int[] take() {
        int[] t = tape;
        tape = new int[0];
        return t;
    }

    int row() {
        int[] t = take();
        if (t.length == 0) return no(-6);
        int came = 0;
        ash = 0;
        for (int i = 0; i < t.length; i += 3) {
            if (i + 2 < t.length && s.told(t[i], t[i + 1], t[i + 2]) == 0) came++;
            else ash++;
        }
        return yes(came);
    }

    int law() {
        int[] t = take();
        if (s.laws.size() == 6) return no(-5);
        fault = -1;
        try {
            s.laws.add(new Parser(t, LAW_WORDS).text(true));
            return yes(s.laws.size() - 1);
        } catch (Fault f) {
            fault = f.place;
            return no(-6);
        }
    }

    int rounds() {
        int[] t = take();
        fault = -1;
        stopped = -1;
        List<Clause> text;
        try {
            text = new Parser(t, ROUND_WORDS).text(false);
        } catch (Fault f) {
            fault = f.place;
            return no(-6);
        }
        State before = s.copy();
        int done = 0;
        int last = -1;
        for (int c = 0; c < text.size(); c++) {
            Clause clause = text.get(c);
            int run = 0;
            for (int time = 0; time < clause.times; time++) {
                Map<String, Integer> w = new HashMap<>();
                w.put("lamps", s.lamps.size());
                w.put("switches", s.switches.size());
                w.put("last", last);
                w.put("done", done);
                w.put("run", run);
                w.put("wind", s.terms[0]);
                try {
                    if (clause.test != null && !clause.test.of(w)) continue;
                } catch (Broken b) {
                    continue;
                }
                int why = 0;
                long minute = 0;
                try {
                    long lamp = clause.first.of(w);
                    minute = clause.at.of(w) + (clause.each == null ? 0 : clause.each.of(w)) * run;
                    int m = minute < 0 || minute > 119 ? -1 : (int) minute;
                    why = s.told((int) lamp, m, clause.verb.equals("light") ? 1 : 0);
                } catch (Broken b) {
                    why = -3;
                }
                if (why != 0) {
                    s = before;
                    stopped = c;
                    return no(why == -5 ? -5 : -3);
                }
                run++;
                done++;
                last = (int) minute;
            }
        }
        return yes(done);
    }

    int fault() {
        return fault;
    }

    int ash() {
        return ash;
    }

    int stopped() {
        return stopped;
    }

    int force(int law) {
        if (out(law, -1, s.laws.size() - 1)) return no(-2);
        int was = s.force;
        s.force = law;
        return yes(was);
    }

    int asks(int lamp, int other, int minute, int what) {
        if (out(lamp, 0, s.lamps.size() - 1) || out(minute, 0, 119) || out(what, 0, 2)) return -1;
        int[] l = s.lamps.get(lamp);
        if (what == 1) return s.tells("reaches", lamp, l[1], minute);
        if (what == 2) return s.tells("drinks", lamp, l[1], minute);
        if (out(other, 0, s.lamps.size() - 1) || other == lamp) return -1;
        int[] o = s.lamps.get(other);
        return s.shuns(lamp, l[1], o[1], s.far(l[0], o[0], true), lamp > other ? 1 : 0, minute) ? 1 : 0;
    }

    int burns(int lamp, int minute, int what) {
        if (out(lamp, 0, s.lamps.size() - 1) || out(minute, 0, 119) || out(what, 0, 3)) return -1;
        Night n = new Night(s);
        if (what == 0) return n.lit[minute][lamp] ? 1 : 0;
        if (what == 1) return n.oil[minute][lamp];
        if (what == 3) return n.out[minute][lamp] ? 1 : 0;
        int sum = 0;
        for (int m = 0; m <= minute; m++) if (n.out[m][lamp]) sum++;
        return sum;
    }

    boolean[][] light() {
        Night n = new Night(s);
        boolean[][] light = new boolean[120][12];
        int[][] sight = new int[12][12];
        for (int a = 0; a < 12; a++) for (int b = 0; b < 12; b++) sight[a][b] = s.far(a, b, true);
        for (int m = 0; m < 120; m++) {
            for (int c = 0; c < 12; c++) {
                for (int i = 0; i < s.lamps.size(); i++) {
                    int far = sight[s.lamps.get(i)[0]][c];
                    if (n.lit[m][i] && far >= 0 && far <= s.tells("reaches", i, s.lamps.get(i)[1], m)) light[m][c] = true;
                }
                for (int l = 0; l < s.lanterns.size(); l++) {
                    int at = s.lanternAt(l, m);
                    if (at < 0 || sight[at][c] < 0) continue;
                    if (sight[at][c] <= s.tells("reaches", -1, s.lanterns.get(l).get(0), m)) light[m][c] = true;
                }
            }
        }
        return light;
    }

    int bright(int minute) {
        if (out(minute, 0, 119)) return -1;
        int bits = 0;
        boolean[] light = light()[minute];
        for (int c = 0; c < 12; c++) if (light[c]) bits |= 1 << c;
        return bits;
    }

    int night(int lamp, int what) {
        if (out(lamp, -1, s.lamps.size() - 1) || out(what, 0, 2)) return -1;
        Night n = new Night(s);
        int sum = 0;
        int first = -1;
        for (int m = 0; m < 120; m++) {
            for (int i = 0; i < s.lamps.size(); i++) {
                if (lamp != -1 && lamp != i) continue;
                if (what == 0 && n.lit[m][i] || what == 1 && n.out[m][i]) sum++;
                if (first < 0 && n.out[m][i]) first = m;
            }
        }
        return what == 2 ? first : sum;
    }

    int judge(int what) {
        if (out(what, 0, 2)) return -1;
        boolean[][] light = light();
        int best = Integer.MAX_VALUE;
        int dark = 0;
        for (int e = 0; e < s.errands.size(); e++) {
            int[] x = s.errands.get(e);
            int first = -1;
            for (int m = x[2]; m >= x[1]; m--) if (!light[m][x[0]]) first = m;
            if (first < 0) continue;
            dark++;
            best = Math.min(best, first * 6 + e);
        }
        if (what == 2) return dark;
        return dark == 0 ? -1 : what == 0 ? best % 6 : best / 6;
    }

    int bestRound;
    List<Integer> bestRow;

    void tryRounds(int at, int steps, List<Integer> row, int[][] far) {
        if (steps >= bestRound && row.size() < s.lamps.size() || steps >= bestRound) return;
        if (row.size() == s.lamps.size()) {
            bestRound = steps;
            bestRow = new ArrayList<>(row);
            return;
        }
        for (int i = 0; i < s.lamps.size(); i++) {
            int to = s.lamps.get(i)[0];
            if (row.contains(i) || far[at][to] < 0) continue;
            row.add(i);
            tryRounds(to, steps + far[at][to], row, far);
            row.remove(row.size() - 1);
        }
    }

    int round(int corner, int i) {
        if (out(corner, 0, 11) || out(i, -1, s.lamps.size() - 1)) return -1;
        int[][] far = new int[12][12];
        for (int a = 0; a < 12; a++) for (int b = 0; b < 12; b++) far[a][b] = s.far(a, b, false);
        bestRound = Integer.MAX_VALUE;
        bestRow = null;
        tryRounds(corner, 0, new ArrayList<>(), far);
        return bestRow == null ? -1 : i == -1 ? bestRound : bestRow.get(i);
    }

    int walk(int from, int minute, int to, int light, int i) {
        if (out(from, 0, 11) || out(minute, 0, 119) || out(to, 0, 11) || out(light, 0, 1) || i < -1) return -1;
        boolean[][] bright = light();
        // The first row of each length to each corner; rows of one length are compared as texts.
        Map<Integer, String> rows = new HashMap<>();
        if (bright[minute][from] == (light == 1)) rows.put(from, "" + (char) ('a' + from));
        for (int m = minute; m < 120; m++) {
            String row = rows.get(to);
            if (row != null) return i == -1 ? m : i < row.length() ? row.charAt(i) - 'a' : -1;
            Map<Integer, String> next = new HashMap<>();
            if (m == 119) break;
            for (int a : rows.keySet()) {
                for (int b = 0; b < 12; b++) {
                    if (a != b && !s.joined(a, b) || bright[m + 1][b] != (light == 1)) continue;
                    String longer = rows.get(a) + (char) ('a' + b);
                    if (!next.containsKey(b) || longer.compareTo(next.get(b)) < 0) next.put(b, longer);
                }
            }
            rows = next;
        }
        return -1;
    }

    int worst(int kind, int minute, int corner, int n, int i) {
        if (out(kind, 0, 5) || out(minute, 0, 119) || out(corner, 0, 11) || out(n, 0, 3) || out(i, -1, n - 1)) return -1;
        int best = Integer.MAX_VALUE;
        List<Integer> row = null;
        int all = (int) Math.pow(12, n);
        for (int r = 0; r < all; r++) {
            List<Integer> l = new ArrayList<>(Arrays.asList(kind, minute, corner));
            boolean fine = true;
            for (int k = 0; k < n; k++) {
                int next = r / (int) Math.pow(12, n - 1 - k) % 12;
                int at = l.get(l.size() - 1);
                if (at != next && !s.joined(at, next)) fine = false;
                l.add(next);
            }
            if (!fine) continue;
            State t = s.copy();
            t.lanterns.add(l);
            int sum = new Night(t).all();
            if (sum < best) {
                best = sum;
                row = l;
            }
        }
        return i == -1 ? best : row.get(3 + i);
    }

    int hang(int sites, int kinds, int corners, int minute, int what) {
        if (out(sites, 1, 4095) || Integer.bitCount(sites) > 6 || out(kinds, 1, 63) || Integer.bitCount(kinds) > 3
            || out(corners, 1, 4095) || out(minute, 0, 119) || out(what, 0, 1 + Integer.bitCount(sites))) return -1;
        List<Integer> where = new ArrayList<>();
        List<Integer> which = new ArrayList<>();
        for (int c = 0; c < 12; c++) if ((sites >> c & 1) == 1) where.add(c);
        for (int k = 0; k < 6; k++) if ((kinds >> k & 1) == 1) which.add(k);
        List<int[]> found = new ArrayList<>();
        hangRow(where, which, new int[where.size()], 0, corners, minute, found);
        int fewest = 99;
        for (int[] row : found) fewest = Math.min(fewest, hung(row));
        int ways = 0;
        int[] first = null;
        for (int[] row : found) {
            if (hung(row) != fewest) continue;
            if (first == null) first = row;
            ways++;
        }
        if (what == 1) return ways;
        if (first == null) return -1;
        return what == 0 ? fewest : first[what - 2] == -1 ? 100 : first[what - 2];
    }

    static int hung(int[] row) {
        int sum = 0;
        for (int k : row) if (k >= 0) sum++;
        return sum;
    }

    void hangRow(List<Integer> where, List<Integer> which, int[] row, int i, int corners, int minute, List<int[]> found) {
        if (i == row.length) {
            int light = 0;
            for (int a = 0; a < i; a++) {
                if (row[a] < 0) continue;
                for (int b = 0; b < i; b++) {
                    if (b != a && row[b] >= 0 && s.shuns(a, row[a], row[b], s.far(where.get(a), where.get(b), true), 0, minute)) return;
                }
                for (int c = 0; c < 12; c++) {
                    int far = s.far(where.get(a), c, true);
                    if (far >= 0 && far <= s.tells("reaches", a, row[a], minute)) light |= 1 << c;
                }
            }
            if ((corners & ~light) == 0) found.add(row.clone());
            return;
        }
        row[i] = -1;
        hangRow(where, which, row, i + 1, corners, minute, found);
        for (int k : which) {
            row[i] = k;
            hangRow(where, which, row, i + 1, corners, minute, found);
        }
    }

    int shutters(int what) {
        if (out(what, 0, 2)) return -1;
        int w = s.ways.size();
        for (int size = 0; size <= 3; size++) {
            int first = -1;
            int ways = 0;
            for (int bits = 0; bits < 1 << w; bits++) {
                if (Integer.bitCount(bits) != size) continue;
                State t = s.copy();
                boolean fine = true;
                for (int i = 0; i < w; i++) {
                    if ((bits >> i & 1) == 0) continue;
                    fine &= t.ways.get(i)[2] == 0;
                    t.ways.get(i)[2] = 1;
                }
                if (!fine || !new Night(t).peaceful()) continue;
                if (first < 0) first = bits;
                ways++;
            }
            if (ways > 0) return what == 0 ? size : what == 1 ? first : ways;
        }
        return what == 2 ? 0 : -1;
    }

    int litAs(int lamp, int kind) {
        State t = s.copy();
        t.lamps.get(lamp)[1] = kind;
        return new Night(t).minutesOf(lamp);
    }

    int would(int lamp, int what) {
        if (out(lamp, -1, s.lamps.size() - 1) || out(what, 0, 1)) return -1;
        if (lamp == -1) {
            int bits = 0;
            for (int i = 0; i < s.lamps.size(); i++) {
                for (int k = 0; k < 6; k++) if (litAs(i, k) > litAs(i, s.lamps.get(i)[1])) bits |= 1 << i;
            }
            return bits;
        }
        int best = 0;
        for (int k = 1; k < 6; k++) if (litAs(lamp, k) > litAs(lamp, best)) best = k;
        return what == 0 ? best : litAs(lamp, best);
    }

    int soot(int lamp, int minute, int is) {
        if (out(minute, 0, 119) || out(is, 0, 1)) return no(-1);
        if (out(lamp, 0, s.lamps.size() - 1)) return no(-2);
        if (s.soot.size() == 8) return no(-5);
        s.soot.add(new int[] {lamp, minute, is});
        return yes(s.soot.size());
    }

    int sweep() {
        int was = s.soot.size();
        s.soot.clear();
        return was;
    }

    static boolean explained(State t) {
        Night n = new Night(t);
        for (int[] x : t.soot) if (n.lit[x[1]][x[0]] != (x[2] == 1)) return false;
        return true;
    }

    static int pick(List<Integer> all, int i) {
        return i == -1 ? all.size() : out(i, 0, all.size() - 1) ? -1 : all.get(i);
    }

    int stranger(int i) {
        if (s.lamps.size() == 10) return -1;
        List<Integer> all = new ArrayList<>();
        for (int c = 0; c < 12; c++) {
            for (int k = 0; k < 6; k++) {
                State t = s.copy();
                t.lamps.add(new int[] {c, k, 240});
                t.switches.add(new int[] {t.lamps.size() - 1, 0, 1});
                if (explained(t)) all.add(c * 6 + k);
            }
        }
        return pick(all, i);
    }

    int changed(int i) {
        List<Integer> all = new ArrayList<>();
        for (int l = 0; l < s.lamps.size(); l++) {
            for (int k = 0; k < 6; k++) {
                State t = s.copy();
                if (t.lamps.get(l)[1] == k) continue;
                t.lamps.get(l)[1] = k;
                if (explained(t)) all.add(l * 6 + k);
            }
        }
        return pick(all, i);
    }

    int drunk(int seed, int kind, int corner, int n) {
        if (out(seed, 0, 1000000) || out(kind, 0, 5) || out(corner, 0, 11) || out(n, 1, 60)) return no(-1);
        List<Integer> l = new ArrayList<>(Arrays.asList(kind, 0, corner));
        long x = seed;
        int at = corner;
        for (int i = 0; i < n; i++) {
            List<Integer> ends = new ArrayList<>();
            ends.add(at);
            for (int[] w : s.ways) {
                if (w[0] == at) ends.add(w[1]);
                if (w[1] == at) ends.add(w[0]);
            }
            x = (x * 1103 + 12345) % 1000003;
            at = ends.get((int) (x % ends.size()));
            l.add(at);
        }
        State t = s.copy();
        t.lanterns.add(l);
        drawn = new int[120];
        for (int m = 0; m < 120; m++) drawn[m] = t.lanternAt(t.lanterns.size() - 1, m);
        return yes(new Night(t).all());
    }

    int drawn(int minute) {
        return drawn == null || out(minute, 0, 119) ? -1 : drawn[minute];
    }

    int image(int k) {
        if (out(k, 0, 1)) return no(-1);
        images[k] = s.copy();
        return yes(0);
    }

    int back(int k) {
        if (out(k, 0, 1)) return no(-1);
        if (images[k] == null) return no(-2);
        s = images[k].copy();
        return yes(0);
    }

    int count(int what) {
        int[] all = {s.ways.size(), s.lamps.size(), s.switches.size(), s.lanterns.size(), s.errands.size(), s.laws.size(),
            s.soot.size(), tape.length, refused[1], refused[2], refused[3], refused[5], refused[6], s.force,
            s.terms[0], s.terms[1], s.terms[2]};
        return out(what, 0, 16) ? -1 : all[what];
    }

    int status() {
        return status;
    }
}
