import java.util.Random;

/** Towns with all 20 ways and all 10 lamps, held against the plain model where that is not too slow. */
public final class BigTowns {
    private static final String[] LAWS = {"", "shuns if kind=other and near=1", "shuns if near=1 and kind=other and minute<20",
        "shuns if lamp=3 and near<2 and near>0", "shuns if later=1 and near=1;drinks minute%3"};
    private static int wrong = 0;

    private static void due(long seed, String call, int got, int want) {
        if (got != want) {
            wrong++;
            System.out.println("seed " + seed + ": " + call + " answered " + got + ", the model " + want);
        }
    }

    private static void write(LampTempers x, Model m, String text) {
        for (int i = 0; i < text.length(); i += 20) {
            int[] f = new int[5];
            for (int k = 0; k < 20; k++) f[k / 4] = f[k / 4] << 8 | (i + k < text.length() ? text.charAt(i + k) : 0);
            x.feed(f[0], f[1], f[2], f[3], f[4]);
            m.feed(f[0], f[1], f[2], f[3], f[4]);
        }
        x.end(text.length());
        m.end(text.length());
    }

    private static void build(LampTempers x, Model m, Random r, long seed) {
        while (m.s.ways.size() < 20) {
            int a = r.nextInt(12);
            int b = r.nextInt(12);
            due(seed, "way", x.way(a, b), m.way(a, b));
        }
        int kinds = 2 + r.nextInt(5);
        for (int i = 0; i < 10; i++) {
            int corner = r.nextInt(12);
            int kind = r.nextInt(kinds);
            int oil = 1 + r.nextInt(240);
            due(seed, "lamp", x.lamp(corner, kind, oil), m.lamp(corner, kind, oil));
        }
        for (int i = 0; i < 24; i++) {
            int lamp = r.nextInt(10);
            int minute = r.nextInt(60);
            int on = r.nextInt(4) > 0 ? 1 : 0;
            due(seed, "turn", x.turn(lamp, minute, on), m.turn(lamp, minute, on));
        }
        if (r.nextBoolean()) {
            int kind = r.nextInt(6);
            int corner = r.nextInt(12);
            due(seed, "lantern", x.lantern(kind, 20, corner), m.lantern(kind, 20, corner));
            for (int i = 0; i < 30; i++) {
                int to = r.nextInt(12);
                due(seed, "go", x.go(0, to), m.go(0, to));
            }
        }
        String law = LAWS[(int) (seed % LAWS.length)];
        if (!law.isEmpty()) {
            write(x, m, law);
            due(seed, "law", x.law(), m.law());
            due(seed, "force", x.force(0), m.force(0));
        }
    }

    private static void ask(LampTempers x, Model m, Random r, long seed) {
        int corner = r.nextInt(12);
        for (int i = -1; i < 10; i++) due(seed, "round", x.round(corner, i), m.round(corner, i));
        for (int what = 0; what < 3; what++) due(seed, "shutters", x.shutters(what), m.shutters(what));
        for (int i = -1; i < 2; i++) due(seed, "worst", x.worst(1, 5, corner, 2, i), m.worst(1, 5, corner, 2, i));
        due(seed, "would", x.would(-1, 0), m.would(-1, 0));
        for (int i = 0; i < 10; i++) due(seed, "night", x.night(i, i % 3), m.night(i, i % 3));
        int sites = 63 << r.nextInt(6);
        for (int what = 0; what < 8; what++) due(seed, "hang", x.hang(sites, 11, sites, 5, what), m.hang(sites, 11, sites, 5, what));
        due(seed, "stranger", x.stranger(-1), m.stranger(-1));
        for (int i = 0; i < 4; i++) due(seed, "soot", x.soot(i, 40 + i, i % 2), m.soot(i, 40 + i, i % 2));
        due(seed, "changed", x.changed(-1), m.changed(-1));
    }

    public static void main(String[] args) {
        long first = args.length > 0 ? Long.parseLong(args[0]) : 1;
        long runs = args.length > 1 ? Long.parseLong(args[1]) : 5;
        for (long seed = first; seed < first + runs; seed++) {
            Random r = new Random(seed);
            LampTempers x = new LampTempers();
            Model m = new Model();
            build(x, m, r, seed);
            ask(x, m, r, seed);
        }
        System.out.println(wrong == 0 ? "all answers are the model's" : wrong + " answers are not the model's");
        if (wrong != 0) System.exit(1);
    }
}
