/** The sentences on corners, ways, lamps, switches, lanterns, errands, terms and on what is refused (part I). */
public final class TownBoundaries {
    private TownBoundaries() {
    }

    private static LampTempers empty() {
        return new LampTempers();
    }

    /** A street of all corners, with ten lamps at its first ones; nothing is told. */
    private static LampTempers ten() {
        LampTempers x = Sentences.street(11);
        for (int i = 0; i < 10; i++) x.lamp(i, i % 6, 100 + i);
        return x;
    }

    /** One lamp of kind 2 and oil 100 at corner 5 without ways, on from minute 0. */
    private static LampTempers lit() {
        LampTempers x = Sentences.lamp();
        x.turn(0, 0, 1);
        return x;
    }

    /** That lamp, with a lantern of its kind at its corner from minute 7 on. */
    private static LampTempers scared() {
        LampTempers x = lit();
        x.lantern(2, 7, 5);
        return x;
    }

    private static LampTempers kept() {
        LampTempers x = empty();
        x.image(0);
        x.image(1);
        return x;
    }

    private static LampTempers taped() {
        LampTempers x = empty();
        x.feed(0, 0, 0, 0, 0);
        return x;
    }

    private static LampTempers drunken() {
        LampTempers x = empty();
        x.drunk(0, 0, 7, 1);
        return x;
    }

    /** Corners 0 and 11 with a way, and a lantern at 0. */
    private static LampTempers carried() {
        LampTempers x = empty();
        x.way(0, 11);
        x.lantern(0, 0, 0);
        return x;
    }

    private static void corners() {
        Sentences.says("CORNERS 0 .. 11: way");
        Sentences.edges(TownBoundaries::empty, (x, n) -> x.way(n, 5), 0, 0, 11, 0, -1);
        Sentences.edges(TownBoundaries::empty, (x, n) -> x.way(5, n), 0, 0, 11, 0, -1);
        Sentences.says("CORNERS 0 .. 11: far");
        Sentences.edges(TownBoundaries::ten, (x, n) -> x.far(n, 0, 0), 0, 0, 11, 11, -1);
        Sentences.edges(TownBoundaries::ten, (x, n) -> x.far(0, n, 0), 0, 0, 11, 11, -1);
        Sentences.edges(TownBoundaries::ten, (x, n) -> x.far(n, 0, 1), 0, 0, 11, 11, -1);
        Sentences.edges(TownBoundaries::ten, (x, n) -> x.far(0, n, 1), 0, 0, 11, 11, -1);
        Sentences.says("CORNERS 0 .. 11: lamp, put");
        Sentences.edges(TownBoundaries::empty, (x, n) -> x.lamp(n, 0, 1), 0, 0, 11, 0, -1);
        Sentences.edges(Sentences::lamp, (x, n) -> x.put(0, 0, n), 0, 5, 11, 5, -1);
        Sentences.says("CORNERS 0 .. 11: lantern, go");
        Sentences.edges(TownBoundaries::empty, (x, n) -> x.lantern(0, 0, n), 0, 0, 11, 0, -1);
        Sentences.edges(TownBoundaries::carried, (x, n) -> x.go(0, n), 0, 1, 11, 1, -1);
        Sentences.says("CORNERS 0 .. 11: errand");
        Sentences.edges(TownBoundaries::empty, (x, n) -> x.errand(n, 0, 0), 0, 0, 11, 0, -1);
        Sentences.says("CORNERS 0 .. 11: round");
        Sentences.edges(TownBoundaries::ten, (x, n) -> x.round(n, -1), 0, 9, 11, 11, -1);
        Sentences.says("CORNERS 0 .. 11: walk");
        Sentences.edges(TownBoundaries::ten, (x, n) -> x.walk(n, 0, 0, 0, -1), 0, 0, 11, 11, -1);
        Sentences.edges(TownBoundaries::ten, (x, n) -> x.walk(0, 0, n, 0, -1), 0, 0, 11, 11, -1);
        Sentences.says("CORNERS 0 .. 11: worst, drunk");
        Sentences.edges(TownBoundaries::lit, (x, n) -> x.worst(2, 0, n, 0, -1), 0, 100, 11, 100, -1);
        Sentences.edges(TownBoundaries::lit, (x, n) -> x.drunk(0, 2, n, 1), 0, 100, 11, 100, -1);
        Sentences.says("CORNERS 0 .. 11: as bits");
        LampTempers x = empty();
        x.lantern(0, 0, 0);
        x.lantern(0, 0, 11);
        Sentences.due(x.bright(0), 1 | 1 << 11);
    }

    private static void hanging() {
        Sentences.says("CORNERS 0 .. 11, KINDS 0 .. 5, MINUTES 0 .. 119: hang");
        Sentences.edges(TownBoundaries::empty, (x, n) -> x.hang(1, 1, 1, n, 0), 0, 1, 119, 1, -1);
        LampTempers x = empty();
        Sentences.due(x.hang(1, 1, 1, 0, 0), 1);
        Sentences.due(x.hang(1 << 11, 1, 1 << 11, 0, 0), 1);
        Sentences.due(x.hang(1 << 12, 1, 1, 0, 0), -1);
        Sentences.due(x.hang(1 << 12 | 1, 1, 1, 0, 1), -1);
        Sentences.due(x.hang(1, 1 << 5, 1, 0, 2), 5);
        Sentences.due(x.hang(1, 1 << 6, 1, 0, 0), -1);
        Sentences.due(x.hang(1, 1 << 6 | 1, 1, 0, 1), -1);
        Sentences.due(x.hang(1, 1, 1 << 12, 0, 0), -1);
        Sentences.due(x.hang(1, 1, 1 << 12 | 1, 0, 1), -1);
        for (int bits : new int[] {-1, Sentences.MIN, Sentences.MAX}) {
            Sentences.due(x.hang(bits, 1, 1, 0, 1), -1);
            Sentences.due(x.hang(1, bits, 1, 0, 1), -1);
            Sentences.due(x.hang(1, 1, bits, 0, 1), -1);
        }
    }

    private static void ways() {
        Sentences.says("WAYS 0 .. 19 (20 at most)");
        Sentences.edges(Sentences::full, (x, n) -> x.shutter(n, 1), 0, 0, 19, 0, -2);
        Sentences.edges(Sentences::full, (x, n) -> x.of(n, 1), 0, 1, 19, 10, -1);
        LampTempers x = Sentences.street(11);
        for (int i = 0; i < 8; i++) Sentences.due(x.way(i, i + 2), 11 + i);
        Sentences.due(x.of(19, 0), -1);
        Sentences.due(x.shutter(19, 1), -2);
        Sentences.due(x.way(10, 8), 19);
        Sentences.due(x.way(0, 11), -5);
        Sentences.due(x.count(0), 20);
        Sentences.due(x.of(20, 0), -1);
        Sentences.due(x.far(0, 11, 0), 6);

        Sentences.says("each between two unlike CORNERS");
        for (int corner = 0; corner < 12; corner++) Sentences.due(empty().way(corner, corner), -1);
        Sentences.due(x.way(4, 4), -1);
        Sentences.due(x.count(0), 20);

        Sentences.says("not two of alike ones; -3 there is one");
        LampTempers y = empty();
        Sentences.due(y.way(11, 0), 0);
        Sentences.due(y.way(11, 0), -3);
        Sentences.due(y.way(0, 11), -3);
        Sentences.due(y.way(11, 1), 1);
        Sentences.due(y.way(0, 1), 2);
        Sentences.due(y.count(0), 3);
        y.shutter(0, 1);
        Sentences.due(y.way(0, 11), -3);

        Sentences.says("SHUTTERED or not (at first)");
        Sentences.due(y.of(1, 2), 0);
        Sentences.due(y.far(1, 11, 1), 1);
        Sentences.due(y.shutter(1, 1), 0);
        Sentences.due(y.of(1, 2), 1);
        Sentences.due(y.shutter(1, 1), 1);
        Sentences.due(y.shutter(1, 0), 1);
        Sentences.due(y.shutter(1, 0), 0);
        Sentences.due(y.far(1, 11, 1), 1);

        Sentences.says("Of a WAY the lower CORNER (what 0), the higher one (1), whether SHUTTERED (2). NONE");
        Sentences.edges(Sentences::full, (z, n) -> z.of(19, n), 0, 8, 2, 0, -1);
        Sentences.due(y.of(0, 0), 0);
        Sentences.due(y.of(0, 1), 11);
        Sentences.due(y.of(3, 2), -1);
        Sentences.due(empty().of(0, 2), -1);
        Sentences.says("A WAY is SHUTTERED (1), is not (0)");
        Sentences.edges(Sentences::full, (z, n) -> z.shutter(0, n), 0, 0, 1, 0, -1);
    }

    private static void steps() {
        Sentences.says("STEPS: the fewest WAYS; SIGHT: the fewest that are not SHUTTERED");
        LampTempers x = empty();
        Sentences.due(x.far(3, 3, 0), 0);
        Sentences.due(x.far(3, 3, 1), 0);
        x.way(0, 1);
        x.way(1, 2);
        x.way(2, 3);
        x.way(0, 3);
        Sentences.due(x.far(0, 3, 0), 1);
        Sentences.due(x.far(3, 0, 1), 1);
        x.shutter(3, 1);
        Sentences.due(x.far(0, 3, 0), 1);
        Sentences.due(x.far(0, 3, 1), 3);
        x.shutter(1, 1);
        Sentences.due(x.far(0, 2, 0), 2);
        Sentences.due(x.far(0, 3, 1), -1);
        Sentences.due(x.far(0, 2, 1), -1);
        Sentences.due(x.far(2, 3, 1), 1);
        LampTempers y = Sentences.street(11);
        Sentences.due(y.far(0, 11, 0), 11);
        Sentences.due(y.far(11, 0, 1), 11);

        Sentences.says("far: NONE (none, too)");
        Sentences.edges(() -> Sentences.street(1), (z, n) -> z.far(0, 1, n), 0, 1, 1, 1, -1);
        Sentences.due(empty().far(0, 1, 0), -1);
        Sentences.due(x.far(0, 4, 0), -1);
        Sentences.due(x.far(4, 0, 1), -1);
    }

    private static void lamps() {
        Sentences.says("LAMPS 0 .. 9 (10 at most)");
        LampTempers x = empty();
        for (int i = 0; i < 9; i++) Sentences.due(x.lamp(3, 0, 1), i);
        Sentences.due(x.fact(9, 0), -1);
        Sentences.due(x.put(9, 0, 1), -2);
        Sentences.due(x.turn(9, 0, 1), -2);
        Sentences.due(x.soot(9, 0, 1), -2);
        Sentences.due(x.lamp(4, 5, 240), 9);
        Sentences.due(x.lamp(4, 5, 240), -5);
        Sentences.due(x.count(1), 10);
        Sentences.edges(TownBoundaries::ten, (y, n) -> y.put(n, 0, 0), 0, 0, 9, 9, -2);
        Sentences.edges(TownBoundaries::ten, (y, n) -> y.fact(n, 0), 0, 0, 9, 9, -1);
        Sentences.edges(TownBoundaries::ten, (y, n) -> y.turn(n, 0, 1), 0, 1, 9, 1, -2);
        Sentences.edges(TownBoundaries::ten, (y, n) -> y.soot(n, 0, 0), 0, 1, 9, 1, -2);
        Sentences.edges(TownBoundaries::ten, (y, n) -> y.asks(n, 5, 0, 0), 0, 0, 9, 0, -1);
        Sentences.edges(TownBoundaries::ten, (y, n) -> y.asks(5, n, 0, 0), 0, 0, 9, 0, -1);
        Sentences.edges(TownBoundaries::ten, (y, n) -> y.burns(n, 0, 1), 0, 100, 9, 109, -1);
        Sentences.edges(TownBoundaries::ten, (y, n) -> y.night(n, 0), -1, 0, 9, 0, -1);
        Sentences.edges(TownBoundaries::ten, (y, n) -> y.would(n, 1), -1, 0, 9, 0, -1);

        Sentences.says("of a KIND 0 .. 5");
        Sentences.edges(TownBoundaries::empty, (y, n) -> y.lamp(0, n, 1), 0, 0, 5, 0, -1);
        Sentences.edges(Sentences::lamp, (y, n) -> y.put(0, 1, n), 0, 2, 5, 2, -1);
        Sentences.edges(TownBoundaries::empty, (y, n) -> y.lantern(n, 0, 0), 0, 0, 5, 0, -1);
        Sentences.edges(TownBoundaries::lit, (y, n) -> y.worst(n, 0, 5, 0, -1), 0, 100, 5, 100, -1);
        Sentences.edges(TownBoundaries::lit, (y, n) -> y.drunk(0, n, 5, 1), 0, 100, 5, 100, -1);

        Sentences.says("with OIL 1 .. 240");
        Sentences.edges(TownBoundaries::empty, (y, n) -> y.lamp(0, 0, n), 1, 0, 240, 0, -1);
        Sentences.edges(Sentences::lamp, (y, n) -> y.put(0, 2, n), 1, 100, 240, 100, -1);

        Sentences.says("put: CORNER (what 0), KIND (1), OIL (2) of a LAMP; fact: 0 .. 2 as for put()");
        Sentences.edges(Sentences::lamp, (y, n) -> y.put(0, n, 1), 0, 5, 2, 100, -1);
        Sentences.edges(Sentences::lamp, (y, n) -> y.fact(0, n), 0, 5, 2, 100, -1);
        Sentences.due(Sentences.lamp().put(0, 1, 1), 2);
        Sentences.due(Sentences.lamp().fact(0, 1), 2);
        Sentences.due(empty().fact(0, 0), -1);
        LampTempers z = Sentences.lamp();
        Sentences.due(z.put(0, 0, 12), -1);
        Sentences.due(z.put(0, 1, 6), -1);
        Sentences.due(z.put(0, 2, 241), -1);
        Sentences.due(z.fact(0, 0), 5);
        Sentences.due(z.fact(0, 1), 2);
        Sentences.due(z.fact(0, 2), 100);
    }

    private static void switches() {
        Sentences.says("SWITCHES, 24 at most");
        LampTempers x = Sentences.lamp();
        for (int i = 1; i <= 24; i++) Sentences.due(x.turn(0, 119, i % 2), i);
        Sentences.due(x.turn(0, 119, 1), -5);
        Sentences.due(x.count(2), 24);
        Sentences.due(x.undo(), 119);
        Sentences.due(x.turn(0, 0, 1), 24);
        Sentences.due(x.turn(0, 0, 1), -5);

        Sentences.says("of a LAMP at a MINUTE 0 .. 119, on (1) or off (0)");
        Sentences.edges(Sentences::lamp, (y, n) -> y.turn(0, n, 1), 0, 1, 119, 1, -1);
        Sentences.edges(Sentences::lamp, (y, n) -> y.turn(0, 0, n), 0, 1, 1, 1, -1);
        LampTempers z = Sentences.lamp();
        z.turn(0, 119, 1);
        Sentences.due(z.night(0, 0), 1);
        Sentences.due(z.burns(0, 118, 0), 0);
        Sentences.due(z.burns(0, 119, 0), 1);

        Sentences.says("undo: -3 there is none");
        Sentences.due(empty().undo(), -3);
        LampTempers u = Sentences.lamp();
        u.turn(0, 119, 1);
        u.turn(0, 0, 0);
        Sentences.due(u.undo(), 0);
        Sentences.due(u.undo(), 119);
        Sentences.due(u.undo(), -3);
        Sentences.due(u.night(0, 0), 0);
    }

    private static void lanterns() {
        Sentences.says("LANTERNS 0 .. 1 (2 at most)");
        LampTempers x = Sentences.street(11);
        Sentences.due(x.go(0, 0), -2);
        Sentences.due(x.lantern(0, 0, 0), 0);
        Sentences.due(x.go(1, 0), -2);
        Sentences.due(x.lantern(5, 119, 11), 1);
        Sentences.due(x.lantern(0, 0, 0), -5);
        Sentences.due(x.count(3), 2);
        LampTempers y = Sentences.full();
        y.doused();
        y.lantern(0, 0, 11);
        y.lantern(1, 0, 11);
        Sentences.due(y.go(0, 10), 1);
        Sentences.due(y.go(1, 11), 1);
        for (int n : new int[] {-1, 2, Sentences.MIN, Sentences.MAX}) Sentences.due(y.go(n, 11), -2);

        Sentences.says("from a MINUTE on at a CORNER");
        Sentences.edges(TownBoundaries::empty, (z, n) -> z.lantern(0, n, 0), 0, 0, 119, 0, -1);
        Sentences.due(x.bright(0), 3);
        Sentences.due(x.bright(118), 3);
        Sentences.due(x.bright(119), 3 | 3 << 10);

        Sentences.says("each MINUTE at the next one they are told to go to (15 at most); they stay at the last");
        LampTempers z = Sentences.street(11);
        z.lantern(0, 3, 0);
        for (int i = 1; i <= 11; i++) Sentences.due(z.go(0, i), i);
        for (int i = 12; i <= 15; i++) Sentences.due(z.go(0, 22 - i), i);
        Sentences.due(z.go(0, 6), -5);
        Sentences.due(z.go(0, 7), -5);
        Sentences.due(z.bright(2), 0);
        Sentences.due(z.bright(3), 3);
        Sentences.due(z.bright(4), 7);
        Sentences.due(z.bright(14), 3 << 10);
        Sentences.due(z.bright(17), 7 << 7);
        Sentences.due(z.bright(18), 7 << 6);
        Sentences.due(z.bright(119), 7 << 6);
        LampTempers late = Sentences.street(2);
        late.lantern(0, 118, 0);
        late.go(0, 1);
        Sentences.due(late.go(0, 2), 2);
        Sentences.due(late.bright(118), 3);
        Sentences.due(late.bright(119), 7);

        Sentences.says("the same or at the end of a WAY from there; -3 no WAY leads there");
        LampTempers w = Sentences.street(3);
        w.lantern(0, 0, 1);
        Sentences.due(w.go(0, 3), -3);
        Sentences.due(w.go(0, 1), 1);
        w.shutter(1, 1);
        Sentences.due(w.go(0, 2), 2);
        Sentences.due(w.go(0, 0), -3);
        Sentences.due(w.go(0, 11), -3);
        Sentences.due(w.go(0, 3), 3);
        Sentences.due(w.go(0, 1), -3);

        Sentences.says("LANTERNS are none then: how many there were");
        Sentences.due(empty().doused(), 0);
        Sentences.due(w.doused(), 1);
        Sentences.due(w.doused(), 0);
        Sentences.due(w.go(0, 3), -2);
        Sentences.due(Sentences.full().doused(), 2);
        Sentences.due(w.lantern(0, 0, 0), 0);
        Sentences.due(w.go(0, 2), -3);
        for (int i = 1; i <= 15; i++) Sentences.due(w.go(0, 0), i);
        Sentences.due(w.go(0, 0), -5);
    }

    private static void errands() {
        Sentences.says("ERRANDS 0 .. 5 (6 at most)");
        LampTempers x = empty();
        for (int i = 0; i < 6; i++) Sentences.due(x.errand(0, 0, 0), i);
        Sentences.due(x.errand(0, 0, 0), -5);
        Sentences.due(x.count(4), 6);

        Sentences.says("errand: -1 (till ahead of from, too)");
        Sentences.edges(TownBoundaries::empty, (y, n) -> y.errand(0, n, 119), 0, 0, 119, 0, -1);
        Sentences.edges(TownBoundaries::empty, (y, n) -> y.errand(0, 0, n), 0, 0, 119, 0, -1);
        Sentences.due(empty().errand(0, 60, 59), -1);
        Sentences.due(empty().errand(0, 60, 60), 0);
        Sentences.due(empty().errand(0, 119, 0), -1);

        Sentences.says("a CORNER must be light in MINUTES from .. till");
        LampTempers y = empty();
        y.lamp(4, 0, 10);
        y.turn(0, 10, 1);
        y.errand(4, 10, 19);
        y.errand(4, 15, 15);
        Sentences.due(y.judge(2), 0);
        Sentences.due(y.judge(0), -1);
        Sentences.due(y.judge(1), -1);
        y.errand(4, 10, 20);
        Sentences.due(y.judge(2), 1);
        Sentences.due(y.judge(0), 2);
        Sentences.due(y.judge(1), 20);
        y.errand(4, 9, 19);
        Sentences.due(y.judge(2), 2);
        Sentences.due(y.judge(0), 3);
        Sentences.due(y.judge(1), 9);
        LampTempers z = empty();
        z.lantern(0, 1, 0);
        z.errand(0, 0, 0);
        Sentences.due(z.judge(1), 0);
        LampTempers last = empty();
        last.lamp(0, 0, 119);
        last.turn(0, 0, 1);
        last.errand(0, 0, 118);
        Sentences.due(last.judge(1), -1);
        last.errand(0, 119, 119);
        Sentences.due(last.judge(0), 1);
        Sentences.due(last.judge(1), 119);
    }

    private static void terms() {
        Sentences.says("TERMS: 0 WIND 0 .. 9 (0 at first), 1 REST 1 .. 9 (3), 2 MOOD 0 .. 9 (0)");
        Sentences.edges(TownBoundaries::empty, (x, n) -> x.terms(0, n), 0, 0, 9, 0, -1);
        Sentences.edges(TownBoundaries::empty, (x, n) -> x.terms(1, n), 1, 3, 9, 3, -1);
        Sentences.edges(TownBoundaries::empty, (x, n) -> x.terms(2, n), 0, 0, 9, 0, -1);
        Sentences.edges(TownBoundaries::empty, (x, n) -> x.terms(n, 4), 0, 0, 2, 0, -1);
        Sentences.due(empty().terms(1, 4), 3);
        Sentences.due(empty().count(14), 0);
        Sentences.due(empty().count(15), 3);
        Sentences.due(empty().count(16), 0);
        LampTempers x = empty();
        x.terms(0, 9);
        x.terms(1, 1);
        x.terms(2, 8);
        Sentences.due(x.terms(1, 0), -1);
        Sentences.due(x.terms(0, 10), -1);
        Sentences.due(x.terms(2, 10), -1);
        Sentences.due(x.terms(0, 0), 9);
        Sentences.due(x.terms(1, 9), 1);
        Sentences.due(x.terms(2, 0), 8);
        Sentences.due(x.count(15), 9);
    }

    /** What questions may be asked about, and in which minutes. */
    private static void questions() {
        Sentences.says("MINUTES 0 .. 119: questions");
        Sentences.edges(TownBoundaries::ten, (x, n) -> x.asks(0, 1, n, 1), 0, 1, 119, 1, -1);
        Sentences.edges(TownBoundaries::lit, (x, n) -> x.burns(0, n, 1), 0, 99, 119, 0, -1);
        Sentences.edges(TownBoundaries::lit, (x, n) -> x.bright(n), 0, 32, 119, 0, -1);
        Sentences.edges(TownBoundaries::ten, (x, n) -> x.walk(0, n, 0, 0, -1), 0, 0, 119, 119, -1);
        Sentences.edges(TownBoundaries::lit, (x, n) -> x.worst(2, n, 5, 0, -1), 0, 0, 119, 100, -1);
        Sentences.edges(Sentences::lamp, (x, n) -> x.soot(0, n, 0), 0, 1, 119, 1, -1);
        Sentences.edges(TownBoundaries::drunken, (x, n) -> x.drawn(n), 0, 7, 119, 7, -1);
        Sentences.says("what a question is about");
        Sentences.edges(TownBoundaries::ten, (x, n) -> x.asks(0, 6, 0, n), 0, 0, 2, 1, -1);
        Sentences.edges(TownBoundaries::scared, (x, n) -> x.burns(0, 0, n), 0, 1, 3, 0, -1);
        Sentences.edges(TownBoundaries::scared, (x, n) -> x.night(0, n), 0, 7, 2, 7, -1);
        Sentences.edges(TownBoundaries::scared, (x, n) -> x.night(-1, n), 0, 7, 2, 7, -1);
        Sentences.edges(TownBoundaries::scared, (x, n) -> x.would(0, n), 0, 0, 1, 100, -1);
        Sentences.edges(TownBoundaries::scared, (x, n) -> x.would(-1, n), 0, 1, 1, 1, -1);
        Sentences.edges(TownBoundaries::empty, (x, n) -> x.shutters(n), 0, 0, 2, 1, -1);
        Sentences.edges(TownBoundaries::scared, (x, n) -> x.hang(5, 1, 1, 0, n), 0, 1, 3, 100, -1);
        LampTempers x = empty();
        x.errand(3, 5, 6);
        Sentences.due(x.judge(0), 0);
        Sentences.due(x.judge(1), 5);
        Sentences.due(x.judge(2), 1);
        for (int n : new int[] {-1, 3, Sentences.MIN, Sentences.MAX}) Sentences.due(x.judge(n), -1);
        Sentences.says("soot: was LIT (1) or was not (0)");
        Sentences.edges(Sentences::lamp, (y, n) -> y.soot(0, 0, n), 0, 1, 1, 1, -1);
        Sentences.says("IMAGES 0, 1; image: -1; back: -1");
        Sentences.edges(TownBoundaries::empty, (y, n) -> y.image(n), 0, 0, 1, 0, -1);
        Sentences.edges(TownBoundaries::kept, (y, n) -> y.back(n), 0, 0, 1, 0, -1);
        Sentences.says("end: NONE, if it has not so many, or n is below 0");
        Sentences.edges(TownBoundaries::taped, (y, n) -> y.end(n), 0, 0, 20, 20, -1);
    }

    private static void refusals() {
        Sentences.says("The first of these in that order: -1 ahead of all");
        Sentences.due(Sentences.full().way(12, 0), -1);
        Sentences.due(Sentences.full().way(0, -1), -1);
        Sentences.due(Sentences.full().way(7, 7), -1);
        Sentences.due(Sentences.full().shutter(20, 2), -1);
        Sentences.due(Sentences.full().lamp(0, 0, 0), -1);
        Sentences.due(Sentences.full().lamp(12, 0, 1), -1);
        Sentences.due(Sentences.full().lamp(0, 6, 1), -1);
        Sentences.due(Sentences.full().put(10, 0, 12), -1);
        Sentences.due(Sentences.full().put(10, 1, 6), -1);
        Sentences.due(Sentences.full().put(10, 2, 0), -1);
        Sentences.due(Sentences.full().put(10, 3, 1), -1);
        Sentences.due(Sentences.full().turn(10, 120, 1), -1);
        Sentences.due(Sentences.full().turn(10, 0, 2), -1);
        Sentences.due(Sentences.full().turn(0, -1, 1), -1);
        Sentences.due(Sentences.full().lantern(6, 0, 0), -1);
        Sentences.due(Sentences.full().lantern(0, 120, 0), -1);
        Sentences.due(Sentences.full().lantern(0, 0, 12), -1);
        Sentences.due(Sentences.full().go(2, 12), -1);
        Sentences.due(Sentences.full().go(0, 12), -1);
        Sentences.due(Sentences.full().errand(12, 0, 0), -1);
        Sentences.due(Sentences.full().errand(0, 1, 0), -1);
        Sentences.due(Sentences.full().soot(10, 120, 1), -1);
        Sentences.due(Sentences.full().soot(10, 0, 2), -1);
        Sentences.due(Sentences.full().soot(0, -1, 0), -1);
        Sentences.due(Sentences.full().back(2), -1);

        Sentences.says("The first of these in that order: -2 ahead of -3 and -5");
        Sentences.due(Sentences.full().turn(10, 0, 1), -2);
        Sentences.due(Sentences.full().soot(10, 0, 1), -2);
        Sentences.due(Sentences.full().go(2, 0), -2);
        Sentences.due(Sentences.full().go(2, 11), -2);
        Sentences.due(Sentences.full().back(0), -2);

        Sentences.says("The first of these in that order: -3 ahead of -5");
        Sentences.due(Sentences.full().way(1, 0), -3);
        Sentences.due(Sentences.full().go(0, 0), -3);
        LampTempers x = Sentences.full();
        x.end(0);
        Sentences.due(Sentences.rounds(x, "light 10 at 0"), -3);
        Sentences.due(Sentences.rounds(x, "light 0 at 120"), -3);
        Sentences.due(Sentences.rounds(x, "light 0 at 1/0"), -3);

        Sentences.says("-5 no room");
        Sentences.due(Sentences.full().way(0, 11), -5);
        Sentences.due(Sentences.full().lamp(0, 0, 1), -5);
        Sentences.due(Sentences.full().turn(0, 0, 1), -5);
        Sentences.due(Sentences.full().lantern(0, 0, 0), -5);
        Sentences.due(Sentences.full().go(0, 11), -5);
        Sentences.due(Sentences.full().go(1, 10), -5);
        Sentences.due(Sentences.full().errand(0, 0, 0), -5);
        Sentences.due(Sentences.full().soot(0, 0, 0), -5);
        Sentences.due(Sentences.full().law(), -5);
        Sentences.due(Sentences.full().feed(0, 0, 0, 0, 0), -1);
        Sentences.due(Sentences.rounds(x, "light 0 at 0"), -5);
        Sentences.due(Sentences.full().stranger(-1), -1);
    }

    private static void refusedChangesNothing() {
        Sentences.says("a call that is REFUSED changes nothing");
        LampTempers x = Sentences.full();
        x.end(0);
        int[] before = new int[8];
        for (int what = 0; what < 8; what++) before[what] = x.count(what);
        int bright = x.bright(110);
        int lit = x.night(-1, 0);
        x.way(0, 11);
        x.way(0, 1);
        x.shutter(0, 2);
        x.shutter(20, 1);
        x.lamp(0, 0, 1);
        x.put(0, 0, 12);
        x.put(10, 0, 1);
        x.turn(0, 0, 0);
        x.turn(0, 120, 0);
        x.lantern(0, 0, 0);
        x.go(0, 11);
        x.go(0, 0);
        x.errand(0, 0, 0);
        x.terms(0, 10);
        x.terms(1, 0);
        x.force(6);
        x.soot(0, 0, 0);
        x.drunk(0, 0, 0, 61);
        x.image(2);
        x.back(0);
        x.row();
        x.law();
        x.rounds();
        for (int what = 0; what < 8; what++) Sentences.due(x.count(what), before[what]);
        Sentences.due(x.count(13), -1);
        Sentences.due(x.count(14), 0);
        Sentences.due(x.count(15), 3);
        Sentences.due(x.fact(0, 0), 0);
        Sentences.due(x.of(0, 2), 0);
        Sentences.due(x.bright(110), bright);
        Sentences.due(x.night(-1, 0), lit);
        Sentences.due(x.drawn(0), -1);
        Sentences.due(x.ash(), 0);
    }

    public static void main(String[] args) {
        corners();
        hanging();
        ways();
        steps();
        lamps();
        switches();
        lanterns();
        errands();
        terms();
        questions();
        refusals();
        refusedChangesNothing();
        Sentences.finish();
    }
}
