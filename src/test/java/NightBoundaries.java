import java.util.function.ToIntFunction;

/** The sentences on nights and on what is asked of them (part III), on drunks and images (part IV), on counts and status. */
public final class NightBoundaries {
    private static final int NO_LAMP = 100;

    private NightBoundaries() {
    }

    /** So many lamps of kind 2 and oil 100 at corner 5, the first on from minute 0, each next one a minute later. */
    private static LampTempers crowd(int lamps) {
        LampTempers x = new LampTempers();
        for (int i = 0; i < lamps; i++) {
            x.lamp(5, 2, 100);
            x.turn(i, i, 1);
        }
        return x;
    }

    /** One lamp of such an oil that is on from such a minute. */
    private static LampTempers one(int oil, int from) {
        LampTempers x = new LampTempers();
        x.lamp(5, 2, oil);
        x.turn(0, from, 1);
        return x;
    }

    private static void beginnings() {
        Sentences.says("A NIGHT, MINUTES 0 .. 119, all off at first, all OIL full");
        LampTempers x = Sentences.lamp();
        Sentences.due(x.night(0, 0), 0);
        Sentences.due(x.burns(0, 0, 0), 0);
        Sentences.due(x.burns(0, 0, 1), 100);
        Sentences.due(x.burns(0, 119, 1), 100);
        Sentences.due(one(240, 0).night(0, 0), 120);
        Sentences.due(one(240, 0).burns(0, 0, 0), 1);
        Sentences.due(one(240, 0).burns(0, 119, 0), 1);
        Sentences.due(one(240, 0).burns(0, 119, 1), 120);
        Sentences.due(one(240, 119).night(0, 0), 1);
        Sentences.due(one(240, 119).burns(0, 119, 1), 239);
        // The second time it is asked the night begins anew.
        x = one(100, 0);
        Sentences.due(x.night(0, 0), 100);
        x.turn(0, 119, 0);
        Sentences.due(x.night(0, 0), 100);

        Sentences.says("an empty town has a NIGHT, too");
        LampTempers e = new LampTempers();
        Sentences.due(e.bright(0), 0);
        Sentences.due(e.bright(119), 0);
        Sentences.due(e.night(-1, 0), 0);
        Sentences.due(e.night(-1, 1), 0);
        Sentences.due(e.night(-1, 2), -1);
        Sentences.due(e.night(0, 0), -1);
        Sentences.due(e.burns(0, 0, 0), -1);
        Sentences.due(e.judge(0), -1);
        Sentences.due(e.judge(1), -1);
        Sentences.due(e.judge(2), 0);
        Sentences.due(e.would(-1, 0), 0);
        Sentences.due(e.would(0, 0), -1);
        Sentences.due(e.worst(0, 0, 0, 3, -1), 0);
        Sentences.due(e.worst(0, 0, 0, 3, 2), 0);
        Sentences.due(e.drunk(5, 0, 0, 60), 0);
    }

    private static void switching() {
        Sentences.says("SWITCHES of it as told");
        LampTempers x = Sentences.lamp();
        x.turn(0, 7, 1);
        x.turn(0, 7, 0);
        Sentences.due(x.night(0, 0), 0);
        x.turn(0, 7, 1);
        Sentences.due(x.night(0, 0), 100);
        x.turn(0, 3, 0);
        Sentences.due(x.night(0, 0), 100);
        x.turn(0, 9, 0);
        Sentences.due(x.night(0, 0), 2);

        Sentences.says("SWITCHES of it as told: all 24 of one MINUTE");
        x = Sentences.lamp();
        for (int i = 0; i < 24; i++) x.turn(0, 119, i % 2);
        Sentences.due(x.night(0, 0), 1);
        x.undo();
        Sentences.due(x.night(0, 0), 0);
        x.undo();
        Sentences.due(x.night(0, 0), 1);

        Sentences.says("on: it burns from now, whatever was: it burns already");
        x = new LampTempers();
        x.lamp(5, 2, 100);
        x.lamp(5, 2, 100);
        x.turn(1, 0, 1);
        x.turn(0, 5, 1);
        Sentences.due(x.burns(0, 5, 3), 1);
        Sentences.due(x.burns(1, 5, 0), 1);
        x.turn(1, 5, 1);
        Sentences.due(x.burns(0, 5, 0), 1);
        Sentences.due(x.burns(1, 5, 3), 1);

        Sentences.says("on: it burns from now, whatever was: it went OUT");
        x = crowd(1);
        x.lantern(2, 7, 5);
        Sentences.due(x.burns(0, 8, 3), 0);
        x.turn(0, 8, 1);
        Sentences.due(x.burns(0, 8, 3), 1);
        Sentences.due(x.burns(0, 10, 3), 0);
        Sentences.due(x.burns(0, 11, 3), 1);

        Sentences.says("on: it burns, if it has OIL left");
        x = one(2, 0);
        x.turn(0, 2, 1);
        x.turn(0, 50, 1);
        Sentences.due(x.night(0, 0), 2);
        x.put(0, 2, 3);
        Sentences.due(x.night(0, 0), 3);
        x.turn(0, 1, 0);
        Sentences.due(x.night(0, 0), 3);
        Sentences.due(x.burns(0, 1, 0), 0);
        Sentences.due(x.burns(0, 2, 0), 1);
        Sentences.due(x.burns(0, 3, 0), 1);
        Sentences.due(x.burns(0, 50, 0), 0);

        Sentences.says("off: it does not");
        x = one(100, 0);
        x.turn(0, 0, 0);
        Sentences.due(x.night(0, 0), 0);
        x = one(100, 0);
        x.turn(0, 119, 0);
        x.put(0, 2, 240);
        Sentences.due(x.night(0, 0), 119);
        x.turn(0, 0, 0);
        Sentences.due(x.night(0, 0), 0);
    }

    private static void resting() {
        Sentences.says("LAMPS that went OUT burn again, if that was REST MINUTES ago");
        int[][] rests = {{1, 113}, {2, 57}, {3, 38}, {9, 13}};
        for (int[] rest : rests) {
            LampTempers x = crowd(1);
            x.lantern(2, 7, 5);
            x.terms(1, rest[0]);
            Sentences.due(x.night(0, 1), rest[1]);
            Sentences.due(x.burns(0, 6, 3), 0);
            Sentences.due(x.burns(0, 7, 3), 1);
            Sentences.due(x.burns(0, 7 + rest[0] - 1, 3), rest[0] == 1 ? 1 : 0);
            Sentences.due(x.burns(0, 7 + rest[0], 3), 1);
        }
        LampTempers x = crowd(2);
        Sentences.due(x.burns(1, 1, 3), 1);
        x.turn(0, 3, 0);
        Sentences.due(x.burns(1, 3, 0), 0);
        Sentences.due(x.burns(1, 4, 0), 1);

        Sentences.says("burn again (from now)");
        x = new LampTempers();
        x.lamp(5, 2, 100);
        x.lamp(5, 2, 100);
        x.turn(0, 0, 1);
        x.turn(1, 5, 1);
        x.turn(0, 6, 0);
        x.turn(0, 7, 1);
        Sentences.due(x.burns(1, 5, 3), 1);
        Sentences.due(x.burns(0, 8, 0), 1);
        Sentences.due(x.burns(1, 8, 3), 1);
        x.turn(0, 8, 1);
        Sentences.due(x.burns(0, 8, 0), 1);
        x.turn(0, 9, 1);
        Sentences.due(x.burns(1, 8, 3), 1);
        x.terms(1, 4);
        Sentences.due(x.burns(0, 9, 0), 1);
        Sentences.due(x.burns(1, 9, 3), 1);

        // It is since that minute, and not since each later one, too.
        x = new LampTempers();
        x.lamp(5, 2, 100);
        x.lamp(5, 2, 100);
        x.turn(0, 0, 1);
        x.turn(1, 5, 1);
        x.turn(0, 6, 0);
        x.turn(0, 10, 1);
        Sentences.due(x.burns(1, 5, 3), 1);
        Sentences.due(x.burns(1, 8, 0), 1);
        Sentences.due(x.burns(0, 10, 3), 1);
        Sentences.due(x.burns(1, 10, 0), 1);
        // Nor does one burn again by its rest that was switched on ahead of that.
        x.undo();
        x.turn(1, 7, 1);
        x.turn(0, 9, 1);
        Sentences.due(x.burns(1, 7, 0), 1);
        Sentences.due(x.burns(0, 9, 3), 1);
        Sentences.due(x.burns(1, 9, 0), 1);
        // One that is switched off while it is OUT does not burn.
        x = crowd(3);
        x.turn(2, 3, 0);
        Sentences.due(x.burns(1, 1, 3), 1);
        Sentences.due(x.burns(2, 2, 3), 1);
        Sentences.due(x.night(2, 1), 1);
        Sentences.due(x.burns(1, 4, 3), 1);

        Sentences.says("how often it went OUT till then (2), whether it goes OUT in it (3)");
        x = crowd(1);
        x.lantern(2, 7, 5);
        Sentences.due(x.burns(0, 6, 2), 0);
        Sentences.due(x.burns(0, 7, 2), 1);
        Sentences.due(x.burns(0, 9, 2), 1);
        Sentences.due(x.burns(0, 10, 2), 2);
        Sentences.due(x.burns(0, 119, 2), 38);
        Sentences.due(x.burns(0, 118, 3), 1);
        Sentences.due(x.burns(0, 119, 3), 0);
    }

    private static void shunning() {
        Sentences.says("all at once: a LAMP that burns and SHUNS another LAMP that burns, or a LANTERN, goes OUT");
        LampTempers x = new LampTempers();
        for (int i = 0; i < 4; i++) {
            x.lamp(i, i, 100);
            x.turn(i, 5, 1);
        }
        Sentences.rule(x, "shuns if other=kind+1");
        for (int i = 0; i < 4; i++) Sentences.due(x.burns(i, 5, 3), i < 3 ? 1 : 0);
        x.turn(2, 5, 0);
        Sentences.due(x.burns(0, 5, 3), 1);
        Sentences.due(x.burns(1, 5, 3), 0);
        Sentences.due(x.burns(2, 5, 3), 0);
        x.lantern(4, 6, 11);
        Sentences.due(x.burns(3, 5, 3), 0);
        Sentences.due(x.burns(3, 6, 3), 1);

        // Another one that is switched on and off in that minute is no help.
        x = crowd(3);
        x.turn(2, 2, 0);
        x.turn(1, 1, 0);
        Sentences.due(x.night(-1, 1), 0);
        for (int i = 0; i < 5; i++) x.undo();
        x.turn(0, 0, 1);
        x.turn(1, 5, 1);
        x.turn(2, 5, 1);
        x.turn(2, 5, 0);
        Sentences.due(x.burns(1, 5, 3), 1);
        Sentences.due(x.night(2, 1), 0);

        Sentences.says("not for the sake of a LAMP that SHUNS it, too, and burns since a later MINUTE");
        x = crowd(3);
        Sentences.due(x.burns(0, 1, 3), 0);
        Sentences.due(x.burns(1, 1, 3), 1);
        Sentences.due(x.burns(2, 2, 3), 1);
        Sentences.due(x.night(0, 1), 0);
        // One that does not shun it itself is no help.
        Sentences.rule(x, "shuns if lamp=0");
        Sentences.due(x.burns(0, 1, 3), 1);
        Sentences.due(x.burns(1, 1, 3), 0);

        Sentences.says("or since the same one and has the higher number");
        x = new LampTempers();
        for (int i = 0; i < 10; i++) x.lamp(5, 2, 100);
        for (int i = 0; i < 10; i++) x.turn(9 - i, 5, 1);
        for (int i = 0; i < 10; i++) Sentences.due(x.burns(i, 5, 3), i > 0 ? 1 : 0);
        Sentences.rule(x, "shuns if lamp=0");
        for (int i = 0; i < 10; i++) Sentences.due(x.burns(i, 5, 3), i > 0 ? 0 : 1);
        Sentences.rule(x, "shuns if lamp=9");
        for (int i = 0; i < 10; i++) Sentences.due(x.burns(i, 5, 3), i < 9 ? 0 : 1);

        Sentences.says("whom one SHUNS in a MINUTE by a law of minutes and later");
        x = new LampTempers();
        for (int i = 0; i < 3; i++) x.lamp(5, i, 240);
        x.turn(0, 0, 1);
        x.turn(1, 20, 1);
        x.turn(2, 21, 1);
        Sentences.rule(x, "shuns if minute=20 and later=1 and lamp=1 and other=2");
        Sentences.due(x.night(-1, 1), 0);
        Sentences.rule(x, "shuns if minute=21 and later=0 and lamp=1 and other=2");
        Sentences.due(x.night(1, 2), 21);
        Sentences.due(x.night(1, 1), 1);
        Sentences.rule(x, "shuns if minute=119 and later=1 and lamp=2 and other=0");
        Sentences.due(x.night(-1, 2), 119);
        Sentences.due(x.night(2, 1), 1);

        Sentences.says("a LANTERN is no LAMP that SHUNS it, too; ahead of its MINUTE it is none");
        x = one(100, 0);
        x.lantern(2, 119, 5);
        Sentences.due(x.night(0, 1), 0);
        x.put(0, 2, 240);
        Sentences.due(x.night(0, 1), 1);
        Sentences.due(x.night(0, 2), 119);
        x.lantern(2, 0, 5);
        Sentences.due(x.night(0, 0), 0);
        Sentences.due(x.night(0, 2), 0);
    }

    private static void drinking() {
        Sentences.says("the others are LIT in this MINUTE and DRINK (as much as is left at most)");
        LampTempers x = one(10, 0);
        Sentences.rule(x, "drinks 4");
        int[] left = {6, 2, 0, 0};
        int[] lit = {1, 1, 1, 0};
        for (int minute = 0; minute < 4; minute++) {
            Sentences.due(x.burns(0, minute, 1), left[minute]);
            Sentences.due(x.burns(0, minute, 0), lit[minute]);
        }
        Sentences.due(x.burns(0, 119, 1), 0);
        x = crowd(2);
        Sentences.due(x.burns(1, 1, 3), 1);
        Sentences.due(x.burns(1, 1, 1), 100);

        Sentences.says("without OIL left they do not burn any more");
        Sentences.due(one(1, 0).night(0, 0), 1);
        Sentences.due(one(1, 119).night(0, 0), 1);
        Sentences.due(one(119, 0).night(0, 0), 119);
        Sentences.due(one(120, 0).night(0, 0), 120);
        Sentences.due(one(120, 0).burns(0, 119, 1), 0);
        // One without oil is not shunned any more.
        x = new LampTempers();
        x.lamp(5, 2, 3);
        x.lamp(5, 2, 100);
        x.turn(0, 0, 1);
        x.turn(1, 2, 1);
        Sentences.due(x.burns(1, 2, 3), 1);
        x.put(0, 2, 2);
        Sentences.due(x.burns(1, 2, 3), 0);
        // One that drinks nothing burns to the end.
        x = one(1, 0);
        Sentences.rule(x, "drinks 0");
        Sentences.due(x.night(0, 0), 120);
    }

    private static void light() {
        Sentences.says("LIGHT is a CORNER, if the SIGHT from a LAMP that is LIT or a LANTERN is no farther than that REACHES");
        LampTempers x = Sentences.street(11);
        x.lamp(3, 0, 10);
        x.turn(0, 0, 1);
        Sentences.due(x.bright(0), 1 << 2 | 1 << 3 | 1 << 4);
        Sentences.due(x.bright(9), 1 << 2 | 1 << 3 | 1 << 4);
        Sentences.due(x.bright(10), 0);
        Sentences.rule(x, "reaches 2");
        Sentences.due(x.bright(0), 31 << 1);
        x.shutter(3, 1);
        Sentences.due(x.bright(0), 7 << 1);
        x.way(2, 4);
        Sentences.due(x.bright(0), 15 << 1);
        Sentences.rule(x, "reaches 0");
        Sentences.due(x.bright(0), 1 << 3);
        Sentences.rule(x, "reaches 9");
        Sentences.due(x.bright(0), 4095);
        x.put(0, 0, 0);
        Sentences.due(x.bright(0), 2047);
        x.shutter(10, 1);
        x.lantern(0, 1, 11);
        Sentences.due(x.bright(0), 2047);
        Sentences.due(x.bright(1), 4095);
        Sentences.due(x.bright(119), 2048);

        Sentences.says("DARK ERRANDS: not LIGHT in a MINUTE of theirs; the first by MINUTES, then numbers");
        LampTempers y = new LampTempers();
        y.errand(0, 50, 60);
        y.errand(1, 40, 60);
        y.errand(2, 40, 40);
        Sentences.due(y.judge(0), 1);
        Sentences.due(y.judge(1), 40);
        Sentences.due(y.judge(2), 3);
        y.errand(3, 0, 119);
        Sentences.due(y.judge(0), 3);
        Sentences.due(y.judge(1), 0);
        y.lantern(0, 0, 3);
        Sentences.due(y.judge(0), 1);
        Sentences.due(y.judge(2), 3);
        y.lantern(0, 41, 1);
        Sentences.due(y.judge(0), 1);
        Sentences.due(y.judge(2), 3);
        Sentences.due(y.errand(4, 119, 119), 4);
        Sentences.due(y.judge(2), 4);
    }

    private static void rounds() {
        Sentences.says("A ROUND from a CORNER: STEPS (i NONE), the i-th LAMP; no LAMPS");
        LampTempers x = new LampTempers();
        Sentences.due(x.round(11, -1), 0);
        Sentences.due(x.round(0, 0), -1);

        Sentences.says("A ROUND: all LAMPS at one CORNER, each of them once");
        x = Sentences.street(11);
        for (int i = 0; i < 10; i++) x.lamp(4, 0, 1);
        Sentences.due(x.round(4, -1), 0);
        Sentences.due(x.round(11, -1), 7);
        for (int i = 0; i < 10; i++) Sentences.due(x.round(11, i), i);
        Sentences.edges(() -> Sentences.full(), (y, n) -> y.round(0, n), -1, 9, 9, 9, -1);

        Sentences.says("A ROUND to where the LAMP is then");
        x = Sentences.street(11);
        x.lamp(0, 0, 1);
        for (int corner = 0; corner < 12; corner++) {
            x.put(0, 0, corner);
            Sentences.due(x.round(3, -1), Math.abs(corner - 3));
            Sentences.due(x.round(3, 0), 0);
            Sentences.due(x.round(3, 1), -1);
        }

        Sentences.says("NONE (one can't come to all)");
        x = Sentences.street(3);
        x.lamp(0, 0, 1);
        x.lamp(5, 0, 1);
        Sentences.due(x.round(0, -1), -1);
        Sentences.due(x.round(0, 0), -1);
        Sentences.due(x.round(5, -1), -1);
        x.way(3, 5);
        Sentences.due(x.round(0, -1), 4);
        x.shutter(3, 1);
        Sentences.due(x.round(0, -1), 4);
        Sentences.due(x.round(6, -1), -1);

        Sentences.says("by the fewest STEPS; the first as a row of LAMPS");
        x = Sentences.street(4);
        x.lamp(4, 0, 1);
        x.lamp(0, 0, 1);
        x.lamp(1, 0, 1);
        // From 2: over 1 to 0, then to 4: 6; 4 first, then 1, 0: 2 + 3 + 1.
        Sentences.due(x.round(2, -1), 6);
        Sentences.due(x.round(2, 0), 0);
        Sentences.due(x.round(2, 1), 2);
        Sentences.due(x.round(2, 2), 1);
        Sentences.due(x.round(2, 3), -1);
        // From 1 it is nearer to 0 first; on the way back lamp 2 would be no farther.
        Sentences.due(x.round(1, -1), 5);
        Sentences.due(x.round(1, 0), 1);
        Sentences.due(x.round(1, 1), 2);
        Sentences.due(x.round(1, 2), 0);
    }

    private static void walks() {
        Sentences.says("the soonest MINUTE (to 119) in which one is there");
        LampTempers x = Sentences.street(3);
        Sentences.due(x.walk(0, 119, 0, 0, -1), 119);
        Sentences.due(x.walk(0, 119, 0, 0, 0), 0);
        Sentences.due(x.walk(0, 119, 0, 0, 1), -1);
        Sentences.due(x.walk(0, 119, 1, 0, -1), -1);
        Sentences.due(x.walk(0, 118, 1, 0, -1), 119);
        Sentences.due(x.walk(0, 116, 3, 0, -1), 119);
        Sentences.due(x.walk(0, 117, 3, 0, -1), -1);
        Sentences.due(x.walk(0, 117, 3, 0, 0), -1);
        Sentences.due(x.walk(0, 0, 4, 0, -1), -1);
        Sentences.due(x.walk(4, 0, 4, 0, -1), 0);

        Sentences.says("the MINUTE (i NONE), the CORNER in the i-th MINUTE from that on. NONE");
        Sentences.edges(() -> Sentences.street(3), (z, n) -> z.walk(0, 5, 3, 0, n), -1, 8, 3, 3, -1);
        Sentences.due(x.walk(0, 5, 3, 0, 0), 0);
        Sentences.due(x.walk(0, 5, 3, 0, 1), 1);

        Sentences.says("always (to begin with, too) where it is LIGHT (1), where it is not (0)");
        x.lamp(1, 0, 10);
        x.turn(0, 10, 1);
        // 0 .. 2 are light in minutes 10 .. 19.
        Sentences.due(x.walk(0, 10, 0, 0, -1), -1);
        Sentences.due(x.walk(0, 9, 0, 1, -1), -1);
        Sentences.due(x.walk(0, 10, 0, 1, -1), 10);
        Sentences.due(x.walk(0, 9, 0, 0, -1), 9);
        Sentences.due(x.walk(3, 10, 3, 0, -1), 10);
        Sentences.due(x.walk(3, 10, 2, 0, -1), 20);
        Sentences.due(x.walk(3, 10, 2, 0, 9), 3);
        Sentences.due(x.walk(3, 10, 2, 0, 10), 2);
        Sentences.due(x.walk(2, 9, 3, 0, -1), 10);
        // In the last dark minute it goes back to 3, and waits there.
        Sentences.due(x.walk(2, 8, 0, 0, -1), 22);
        Sentences.due(x.walk(2, 7, 0, 0, -1), 9);
        Sentences.due(x.walk(0, 18, 2, 1, -1), -1);
        Sentences.due(x.walk(0, 17, 2, 1, -1), 19);
        Sentences.due(x.walk(0, 17, 3, 1, -1), -1);
        Sentences.due(x.walk(0, 19, 0, 1, -1), 19);
        Sentences.due(x.walk(0, 20, 0, 1, -1), -1);
        Sentences.due(x.walk(0, 20, 2, 0, -1), 22);
        for (int light : new int[] {-1, 2, Sentences.MIN, Sentences.MAX}) Sentences.due(x.walk(3, 0, 3, light, -1), -1);

        Sentences.says("each MINUTE by a WAY or staying; the first as a row of CORNERS, the lowest ones");
        LampTempers y = new LampTempers();
        y.way(1, 9);
        y.way(1, 3);
        y.way(9, 5);
        y.way(3, 5);
        y.shutter(1, 1);
        Sentences.due(y.walk(1, 0, 5, 0, -1), 2);
        Sentences.due(y.walk(1, 0, 5, 0, 1), 3);
        Sentences.due(y.walk(5, 0, 1, 0, 1), 3);
        // To where it is dark sooner: the higher one; where both wait: the lowest waits first.
        y.lantern(0, 1, 3);
        Sentences.due(y.walk(1, 0, 5, 0, -1), -1);
        y.doused();
        y.lamp(5, 0, 6);
        y.turn(0, 0, 1);
        Sentences.due(y.walk(1, 0, 5, 0, -1), 7);
        int[] row = {1, 1, 1, 1, 1, 1, 3, 5};
        for (int i = 0; i < row.length; i++) Sentences.due(y.walk(1, 0, 5, 0, i), row[i]);
        Sentences.due(y.walk(1, 0, 5, 0, 8), -1);
    }

    private static void worst() {
        Sentences.says("A LANTERN's WORST: n CORNERS 0 .. 3 on");
        Sentences.edges(() -> one(100, 0), (x, n) -> x.worst(2, 0, 5, n, -1), 0, 0, 3, 0, -1);
        Sentences.edges(() -> one(100, 0), (x, n) -> x.worst(2, 0, 5, 3, n), -1, 0, 2, 5, -1);
        Sentences.edges(() -> one(100, 0), (x, n) -> x.worst(2, 0, 5, 1, n), -1, 0, 0, 5, -1);
        Sentences.due(one(100, 0).worst(2, 0, 5, 0, 0), -1);

        Sentences.says("the row by which LAMPS are LIT in the fewest MINUTES together; the first");
        LampTempers x = Sentences.street(5);
        x.lamp(5, 2, 240);
        x.turn(0, 0, 1);
        // From 1 it comes within sight, to 4, by three.
        Sentences.due(x.worst(2, 10, 1, 2, -1), 120);
        Sentences.due(x.worst(2, 10, 1, 2, 0), 0);
        Sentences.due(x.worst(2, 10, 1, 2, 1), 0);
        Sentences.due(x.worst(2, 10, 1, 3, -1), 13);
        Sentences.due(x.worst(2, 10, 1, 3, 0), 2);
        Sentences.due(x.worst(2, 10, 1, 3, 1), 3);
        Sentences.due(x.worst(2, 10, 1, 3, 2), 4);
        // While the lamp rests, the lantern may be out of sight: the lowest.
        Sentences.due(x.worst(2, 10, 4, 3, -1), 10);
        Sentences.due(x.worst(2, 10, 4, 3, 0), 3);
        Sentences.due(x.worst(2, 10, 4, 3, 1), 3);
        Sentences.due(x.worst(2, 10, 4, 3, 2), 4);
        x.shutter(4, 1);
        Sentences.due(x.worst(2, 10, 4, 1, -1), 11);
        Sentences.due(x.worst(2, 10, 4, 1, 0), 5);

        Sentences.says("A LANTERN's WORST in the last MINUTES: rows by WAYS all the same");
        x.shutter(4, 0);
        Sentences.due(x.worst(2, 119, 3, 3, -1), 120);
        Sentences.due(x.worst(2, 119, 3, 3, 0), 2);
        Sentences.due(x.worst(2, 119, 3, 3, 1), 1);
        Sentences.due(x.worst(2, 119, 3, 3, 2), 0);
        Sentences.due(x.worst(2, 118, 3, 3, -1), 119);
        Sentences.due(x.worst(2, 118, 3, 3, 0), 4);
        Sentences.due(x.worst(2, 118, 3, 3, 1), 3);
        Sentences.due(x.worst(2, 118, 3, 3, 2), 2);

        Sentences.says("one more LANTERN that nobody SHUNS: all else as it is");
        LampTempers z = crowd(3);
        for (int i = 0; i < 3; i++) z.way(5 + i, 6 + i);
        z.turn(1, 50, 0);
        z.turn(0, 61, 0);
        for (int minute : new int[] {0, 1, 2, 3, 49, 50, 51, 60, 61, 62, 63, 118, 119}) {
            for (int n = 0; n < 4; n++) Sentences.due(z.worst(3, minute, 5, n, -1), z.night(-1, 0));
        }

        Sentences.says("one more LANTERN: also where there are two");
        x.lantern(0, 0, 11);
        x.lantern(2, 50, 4);
        Sentences.due(x.worst(2, 20, 4, 0, -1), 20);
        Sentences.due(x.worst(2, 119, 0, 0, -1), 50);
        Sentences.due(x.count(3), 2);
        Sentences.due(x.night(0, 0), 50);
    }

    private static void hanging() {
        Sentences.says("told SITES (CORNERS, 6 at most) and told KINDS (3 at most); NONE (too many, none told)");
        LampTempers x = Sentences.street(11);
        Sentences.due(x.hang(63, 1, 63, 0, 0), 2);
        Sentences.due(x.hang(63 << 6, 1, 63 << 6, 0, 0), 2);
        Sentences.due(x.hang(127, 1, 63, 0, 0), -1);
        Sentences.due(x.hang(127, 1, 63, 0, 1), -1);
        Sentences.due(x.hang(4095, 1, 63, 0, 1), -1);
        Sentences.due(x.hang(63, 7, 63, 0, 0), 2);
        Sentences.due(x.hang(63, 56, 63, 0, 3), 3);
        Sentences.due(x.hang(63, 15, 63, 0, 0), -1);
        Sentences.due(x.hang(63, 15, 63, 0, 1), -1);
        Sentences.due(x.hang(63, 63, 63, 0, 1), -1);
        Sentences.due(x.hang(0, 1, 63, 0, 0), -1);
        Sentences.due(x.hang(0, 1, 63, 0, 1), -1);
        Sentences.due(x.hang(63, 0, 63, 0, 0), -1);
        Sentences.due(x.hang(63, 0, 63, 0, 1), -1);
        Sentences.due(x.hang(63, 1, 0, 0, 0), -1);
        Sentences.due(x.hang(63, 1, 0, 0, 1), -1);
        Sentences.due(x.hang(63 | 1 << 11, 1, 63, 0, 1), -1);
        Sentences.due(x.hang(0xfc0, 7, 4095, 0, 1), 0);

        Sentences.says("how many (what 0), in how many ways (1; 0), the KIND on the i-th of these SITES (2 + i; 100: none)");
        Sentences.edges(() -> Sentences.street(5), (y, n) -> y.hang(63, 1, 63, 0, n), 0, 2, 7, NO_LAMP, -1);
        Sentences.edges(() -> Sentences.street(5), (y, n) -> y.hang(2, 4, 7, 0, n), 0, 1, 2, 2, -1);
        int[] row = {2, 1, NO_LAMP, 0, NO_LAMP, NO_LAMP, 0, NO_LAMP};
        for (int what = 0; what < row.length; what++) Sentences.due(x.hang(63, 1, 63, 0, what), row[what]);

        Sentences.says("NONE (it can't be, for 0, 2 + i)");
        Sentences.due(x.hang(3, 1, 8, 0, 0), -1);
        Sentences.due(x.hang(3, 1, 8, 0, 1), 0);
        Sentences.due(x.hang(3, 1, 8, 0, 2), -1);
        Sentences.due(x.hang(3, 1, 8, 0, 3), -1);
        Sentences.due(x.hang(3, 1, 8, 0, 4), -1);
        // Two neighbours of one kind would be needed.
        Sentences.due(x.hang(6, 1, 15, 0, 1), 0);
        Sentences.due(x.hang(6, 3, 15, 0, 1), 2);

        Sentences.says("the first as a row of KINDS by rising SITES (none ahead)");
        Sentences.due(x.hang(6, 10, 6, 0, 0), 1);
        Sentences.due(x.hang(6, 10, 6, 0, 1), 4);
        Sentences.due(x.hang(6, 10, 6, 0, 2), NO_LAMP);
        Sentences.due(x.hang(6, 10, 6, 0, 3), 1);
        Sentences.due(x.hang(6, 10, 15, 0, 2), 1);
        Sentences.due(x.hang(6, 10, 15, 0, 3), 3);
        Sentences.due(x.hang(6, 10, 3, 0, 2), 1);
        Sentences.due(x.hang(6, 10, 3, 0, 3), NO_LAMP);
        Sentences.due(x.hang(6, 10, 3, 0, 1), 2);
    }

    private static void hangingByLaws() {
        Sentences.says("numbers: 0 .. by told SITES, with a LAMP or not");
        LampTempers x = Sentences.street(5);
        Sentences.rule(x, "reaches lamp");
        Sentences.due(x.hang(21, 1, 28, 0, 0), 1);
        Sentences.due(x.hang(21, 1, 28, 0, 4), 0);
        Sentences.due(x.hang(21, 1, 31, 0, 0), 3);
        Sentences.due(x.hang(16, 1, 28, 0, 1), 0);
        Sentences.due(x.hang(63, 1, 63, 0, 0), 1);
        Sentences.due(x.hang(63, 1, 63, 0, 7), 0);

        Sentences.says("later 0; in one MINUTE");
        Sentences.rule(x, "reaches 0;shuns if later=1");
        Sentences.due(x.hang(3, 1, 3, 0, 0), 2);
        Sentences.rule(x, "reaches 0;shuns if later=0 and minute<119");
        Sentences.due(x.hang(3, 1, 3, 118, 0), -1);
        Sentences.due(x.hang(3, 1, 3, 119, 0), 2);
        Sentences.rule(x, "reaches minute%3;shuns if lamp=1 and other=0");
        Sentences.due(x.hang(63, 1, 7, 0, 0), -1);
        Sentences.due(x.hang(62, 1, 7, 2, 0), 1);
        Sentences.due(x.hang(3, 1, 7, 2, 1), 2);
        Sentences.due(x.hang(3, 1, 3, 0, 1), 0);
        Sentences.due(x.hang(3, 2, 3, 0, 1), 1);

        Sentences.says("none of which SHUNS another one");
        x = Sentences.street(11);
        Sentences.rule(x, "reaches 0;shuns if lamp=0 and other=1");
        Sentences.due(x.hang(5, 3, 5, 0, 1), 2);
        Sentences.due(x.hang(5, 3, 5, 0, 3), 0);
        Sentences.rule(x, "reaches 0;shuns if lamp=2 and other=1");
        Sentences.due(x.hang(21, 3, 21, 0, 1), 2);
        LampTempers three = Sentences.street(2);
        three.way(0, 2);
        Sentences.rule(three, "reaches 0;shuns if near=1");
        for (int corners : new int[] {3, 5, 6, 7}) Sentences.due(three.hang(7, 7, corners, 0, 1), 0);
        for (int corners : new int[] {1, 2, 4}) Sentences.due(three.hang(7, 7, corners, 0, 1), 3);
        Sentences.rule(three, "reaches 0;shuns if near=1 and kind=other");
        Sentences.due(three.hang(7, 7, 7, 0, 1), 6);
        Sentences.due(three.hang(7, 3, 7, 0, 1), 0);
        // Six of three kinds each, of which no two may be of one kind as neighbours.
        x = Sentences.street(5);
        x.way(0, 5);
        Sentences.rule(x, "reaches 0;shuns if near=1 and kind=other");
        Sentences.due(x.hang(63, 7, 63, 0, 0), 6);
        Sentences.due(x.hang(63, 7, 63, 0, 1), 66);
        Sentences.due(x.hang(63, 3, 63, 0, 1), 2);
        Sentences.rule(x, "reaches 0;shuns if near=3 and kind=other");
        Sentences.due(x.hang(63, 7, 63, 0, 1), 216);
        Sentences.rule(x, "reaches 0;shuns if near=3 and other=2 and kind=0");
        Sentences.due(x.hang(63, 7, 63, 0, 1), 343);
        // Of 729, those in which the first is of kind 1 are not at peace with the fourth.
        Sentences.rule(x, "reaches 0;shuns if near=3 and other=1 and lamp=3");
        Sentences.due(x.hang(63, 7, 63, 0, 1), 486);

        Sentences.says("other LAMPS and LANTERNS aside");
        LampTempers y = Sentences.street(5);
        for (int i = 0; i < 10; i++) {
            y.lamp(2, 0, 100);
            y.turn(i, 0, 1);
        }
        y.lantern(0, 0, 1);
        Sentences.due(y.hang(2, 1, 7, 0, 0), 1);
        Sentences.due(y.hang(2, 1, 15, 0, 0), -1);
        Sentences.due(y.hang(63, 1, 63, 0, 1), 1);
        Sentences.due(y.count(1), 10);
    }

    /** Lamps of one kind at corners 1 and 2 of a street. */
    private static LampTempers rivals(int minute) {
        LampTempers x = Sentences.street(4);
        x.lamp(1, 0, 240);
        x.lamp(2, 0, 240);
        x.turn(0, 0, 1);
        x.turn(1, minute, 1);
        return x;
    }

    /** A lamp at 0, a lantern at 1 from minute 119 on, and so many roundabout ways of two between. */
    private static LampTempers roundabout(int ways) {
        LampTempers x = new LampTempers();
        for (int i = 2; i < ways + 2; i++) {
            x.way(0, i);
            x.way(i, 1);
        }
        x.lamp(0, 0, 240);
        x.turn(0, 0, 1);
        x.lantern(1, 119, 1);
        Sentences.rule(x, "shuns if near=2");
        return x;
    }

    private static void peace(LampTempers x, int fewest, int bits, int ways) {
        Sentences.due(x.shutters(0), fewest);
        Sentences.due(x.shutters(1), bits);
        Sentences.due(x.shutters(2), ways);
    }

    private static void shutters() {
        Sentences.says("SHUTTERS: the fewest WAYS more, 0 .. 3");
        peace(new LampTempers(), 0, 0, 1);
        peace(Sentences.street(11), 0, 0, 1);
        peace(roundabout(0), 0, 0, 1);
        peace(roundabout(1), 1, 1, 2);
        peace(roundabout(2), 2, 5, 4);
        peace(roundabout(3), 3, 21, 8);

        Sentences.says("NONE (not by 3, for 0, 1); in how many ways (2; 0)");
        peace(roundabout(4), -1, -1, 0);
        peace(roundabout(10), -1, -1, 0);
        LampTempers x = crowd(2);
        peace(x, -1, -1, 0);
        x.way(5, 6);
        peace(x, -1, -1, 0);

        Sentences.says("SHUTTERS: so that no LAMP goes OUT in the NIGHT, from its first MINUTE to its last");
        peace(rivals(0), 1, 2, 1);
        peace(rivals(119), 1, 2, 1);
        x = rivals(5);
        x.turn(1, 5, 0);
        peace(x, 0, 0, 1);

        x = rivals(5);
        x.put(0, 2, 6);
        peace(x, 1, 2, 1);
        x.put(0, 2, 5);
        peace(x, 0, 0, 1);
        x = rivals(0);
        Sentences.rule(x, "shuns if near=1 and later=1");
        peace(x, 0, 0, 1);
        Sentences.rule(x, "shuns if near=1 and (lamp=0 or later=1)");
        peace(x, 1, 2, 1);
        x = rivals(5);
        Sentences.rule(x, "shuns if near=1 and later=1");
        peace(x, 1, 2, 1);

        Sentences.says("WAYS more: those that are SHUTTERED stay so");
        x = rivals(0);
        x.shutter(1, 1);
        peace(x, 0, 0, 1);
        x = roundabout(4);
        x.shutter(0, 1);
        peace(x, 3, 4 | 16 | 64, 8);
        Sentences.due(x.of(0, 2), 1);
        Sentences.due(x.of(2, 2), 0);

        shuttersByLaws();

        Sentences.says("the lowest as bits");
        x = new LampTempers();
        x.way(3, 4);
        x.way(0, 3);
        x.way(4, 1);
        x.lamp(0, 0, 240);
        x.turn(0, 0, 1);
        x.lantern(0, 0, 1);
        Sentences.rule(x, "shuns if near=3");
        peace(x, 1, 1, 3);
        // The twentieth way is one of them.
        x = Sentences.full();
        x.image(0);
        for (int i = 0; i < 24; i++) x.undo();
        x.doused();
        x.shutter(7, 1);
        x.shutter(8, 1);
        x.put(0, 0, 8);
        x.put(1, 0, 10);
        x.put(1, 1, 0);
        x.turn(0, 0, 1);
        x.turn(1, 0, 1);
        peace(x, 1, 1 << 19, 1);
    }

    private static void shuttersByLaws() {
        Sentences.says("SHUTTERS: LANTERNS, too, that were there ahead of the LAMP");
        LampTempers x = Sentences.street(2);
        x.lamp(0, 0, 100);
        x.turn(0, 5, 1);
        x.lantern(1, 0, 11);
        x.lantern(0, 0, 1);
        peace(x, 1, 1, 1);

        Sentences.says("SHUTTERS: a SIGHT that is farther then may be no better, up to 11");
        x = Sentences.street(11);
        x.way(0, 11);
        x.lamp(0, 0, 100);
        x.turn(0, 5, 1);
        x.lantern(1, 0, 11);
        Sentences.rule(x, "shuns if near=1");
        peace(x, 1, 1 << 11, 1);
        Sentences.rule(x, "shuns if near=1 or near=11");
        peace(x, 2, 1 << 11 | 1, 11);
        Sentences.rule(x, "shuns if near=1 or near=11 or near<0");
        peace(x, -1, -1, 0);

        Sentences.says("SHUTTERS: nor may none be");
        x = Sentences.street(2);
        x.lamp(0, 0, 100);
        x.turn(0, 0, 1);
        x.lantern(1, 0, 1);
        x.lantern(2, 0, 2);
        Sentences.rule(x, "shuns if other=1 and near=1;shuns if other=2 and near<0");
        peace(x, -1, -1, 0);
        x.way(0, 2);
        peace(x, 1, 1, 1);
    }

    private static void wishes() {
        Sentences.says("WOULD: the KIND by which it is LIT in the most MINUTES, the lowest");
        LampTempers x = new LampTempers();
        x.lamp(5, 5, 100);
        Sentences.due(x.would(0, 0), 0);
        Sentences.due(x.would(0, 1), 0);
        x.turn(0, 0, 1);
        Sentences.due(x.would(0, 0), 0);
        Sentences.due(x.would(0, 1), 100);
        x.put(0, 2, 200);
        Sentences.due(x.would(0, 1), 120);
        Sentences.rule(x, "drinks 5-kind");
        Sentences.due(x.would(0, 0), 4);
        Sentences.rule(x, "drinks 9-kind");
        Sentences.due(x.would(0, 0), 5);
        Sentences.due(x.would(0, 1), 50);
        Sentences.due(x.fact(0, 1), 5);

        Sentences.says("WOULD: all else as it is, LANTERNS, too");
        LampTempers w = one(100, 0);
        w.lantern(0, 0, 5);
        Sentences.due(w.would(0, 0), 1);
        Sentences.due(w.would(0, 1), 100);
        w.lantern(1, 0, 5);
        Sentences.due(w.would(0, 0), 2);
        Sentences.rule(w, "shuns if other=0 and kind<4;shuns if other=1 and kind=4 and later=1");
        Sentences.due(w.would(0, 0), 5);
        w.put(0, 1, 5);
        Sentences.due(w.would(-1, 0), 0);
        w.put(0, 1, 4);
        Sentences.due(w.would(-1, 0), 1);

        Sentences.says("UNREST are LAMPS that would be LIT longer by another KIND; (lamp NONE; what 0, 1 alike), as bits");
        Sentences.due(x.would(-1, 0), 0);
        x.put(0, 1, 4);
        Sentences.due(x.would(-1, 0), 1);
        Sentences.due(x.would(-1, 1), 1);
        Sentences.due(x.would(-1, 2), -1);
        x = crowd(10);
        Sentences.due(x.would(-1, 0), 1023 - 1);
        for (int i = 1; i < 10; i++) Sentences.due(x.would(i, 0), 0);
        Sentences.due(x.would(9, 1), 100);
        Sentences.due(x.would(10, 0), -1);
    }

    private static void soot() {
        Sentences.says("SOOT, 8 at most");
        LampTempers x = one(100, 0);
        for (int i = 1; i <= 8; i++) Sentences.due(x.soot(0, i - 1, 1), i);
        Sentences.due(x.soot(0, 8, 1), -5);
        Sentences.due(x.count(6), 8);

        Sentences.says("SOOT is none then: how many there was");
        Sentences.due(x.sweep(), 8);
        Sentences.due(x.sweep(), 0);
        Sentences.due(x.count(6), 0);
        Sentences.due(x.soot(0, 0, 0), 1);
        Sentences.due(x.changed(-1), 0);
        Sentences.due(x.sweep(), 1);
        Sentences.due(x.changed(-1), 5);

        Sentences.says("SOOT tells that a LAMP was LIT in a MINUTE (1) or was not (0)");
        int[][] tales = {{0, 1, 5}, {99, 1, 5}, {100, 1, 0}, {119, 0, 5}, {100, 0, 5}, {99, 0, 0}, {0, 0, 0}};
        for (int[] tale : tales) {
            LampTempers y = one(100, 0);
            y.soot(0, tale[0], tale[1]);
            Sentences.due(y.changed(-1), tale[2]);
        }
        // Two that can't both be so; the last of eight counts, too.
        LampTempers z = one(100, 0);
        z.soot(0, 5, 1);
        z.soot(0, 5, 0);
        Sentences.due(z.changed(-1), 0);
        z = one(100, 0);
        for (int i = 0; i < 7; i++) z.soot(0, 5, 1);
        Sentences.due(z.changed(-1), 5);
        z.soot(0, 4, 0);
        Sentences.due(z.changed(-1), 0);

        // Two LAMPS in one minute, both of which count.
        z = crowd(3);
        z.soot(0, 2, 1);
        z.soot(1, 2, 1);
        z.soot(2, 2, 1);
        Sentences.due(z.changed(-1), 0);
        z = crowd(3);
        z.soot(0, 2, 1);
        z.soot(2, 2, 1);
        Sentences.due(z.changed(-1), 5);
        z = crowd(3);
        z.soot(1, 2, 0);
        z.soot(2, 2, 0);
        Sentences.due(z.changed(-1), 0);
        z.soot(0, 2, 0);
        Sentences.due(z.sweep(), 3);
        z.soot(1, 2, 0);
        Sentences.due(z.changed(-1), 5);
        z.sweep();
        z.soot(0, 5, 1);
        z.soot(1, 5, 1);
        Sentences.due(z.changed(-1), 10);
        Sentences.due(z.changed(0), 0);
        z.sweep();
        z.soot(1, 6, 0);
        Sentences.due(z.changed(-1), 5);
        Sentences.due(z.changed(0), 12);

        Sentences.says("CHANGED: one LAMP of another KIND by which all is; how many (i NONE), the i-th");
        Sentences.due(new LampTempers().changed(-1), 0);
        Sentences.due(new LampTempers().changed(0), -1);
        Sentences.edges(() -> crowd(2), (y, n) -> y.changed(n), -1, 10, 9, 11, -1);
        z = crowd(2);
        Sentences.due(z.changed(2), 3);
        z.soot(1, 1, 1);
        Sentences.due(z.changed(-1), 10);
        z.soot(1, 2, 0);
        Sentences.due(z.changed(-1), 0);
        Sentences.due(z.changed(0), -1);
        Sentences.due(z.fact(0, 1), 2);
        Sentences.edges(() -> crowd(10), (y, n) -> y.changed(n), -1, 50, 49, 59, -1);
    }

    private static void strangers() {
        Sentences.says("STRANGERS: how many (i NONE), the i-th as CORNER times 6 and KIND. NONE");
        Sentences.edges(LampTempers::new, (x, n) -> x.stranger(n), -1, 72, 71, 71, -1);
        Sentences.due(new LampTempers().stranger(6), 6);
        LampTempers x = one(100, 0);
        x.soot(0, 0, 0);
        Sentences.due(x.stranger(-1), 0);
        Sentences.due(x.stranger(0), -1);

        Sentences.says("(10 LAMPS are there, too)");
        x = new LampTempers();
        for (int i = 0; i < 9; i++) x.lamp(5, 2, 100);
        Sentences.due(x.stranger(-1), 72);
        x.lamp(5, 2, 100);
        Sentences.due(x.stranger(-1), -1);
        Sentences.due(x.stranger(0), -1);
        Sentences.due(x.count(1), 10);

        Sentences.says("one LAMP more, the highest number, on from MINUTE 0");
        x = one(100, 1);
        x.soot(0, 1, 0);
        Sentences.due(x.stranger(-1), 1);
        Sentences.due(x.stranger(0), 5 * 6 + 2);
        Sentences.due(x.stranger(1), -1);
        x = one(100, 0);
        x.soot(0, 0, 1);
        Sentences.due(x.stranger(-1), 72);
        x = one(100, 27);
        Sentences.rule(x, "shuns if lamp=0 and near=0;drinks 9 if lamp=1;drinks 0 if not lamp=1");
        x.soot(0, 27, 1);
        Sentences.due(x.stranger(-1), 72);
        x.lamp(11, 0, 1);
        Sentences.due(x.stranger(-1), 66);

        Sentences.says("a STRANGER burns since MINUTE 0, and SHUNS LANTERNS, too");
        x = one(100, 5);
        Sentences.rule(x, "shuns if later=1");
        x.soot(0, 5, 1);
        Sentences.due(x.stranger(-1), 0);
        x = one(100, 5);
        Sentences.rule(x, "shuns if later=0 and lamp=0");
        x.soot(0, 5, 1);
        Sentences.due(x.stranger(-1), 72);
        x = one(100, 0);
        Sentences.rule(x, "shuns if later=1");
        x.soot(0, 0, 1);
        Sentences.due(x.stranger(-1), 72);
        x = one(100, 1);
        Sentences.rule(x, "shuns if lamp=0 and near=0");
        x.soot(0, 1, 1);
        x.lantern(4, 0, 9);
        Sentences.due(x.stranger(-1), 66);
        Sentences.rule(x, "shuns if lamp=0 and near=0;shuns if lamp=1 and other=4");
        Sentences.due(x.stranger(-1), 72);

        Sentences.says("with OIL 240");
        int[][] thirsts = {{9, 26, 6}, {9, 27, 0}, {8, 29, 6}, {8, 30, 0}, {2, 119, 6}, {3, 79, 6}, {3, 80, 0}};
        for (int[] thirst : thirsts) {
            LampTempers y = one(100, thirst[1]);
            Sentences.rule(y, "shuns if lamp=0;drinks " + thirst[0]);
            y.soot(0, thirst[1], 0);
            Sentences.due(y.stranger(-1), thirst[2] * 12);
        }
    }

    private static void drunks() {
        Sentences.says("a SEED (0 .. 1,000,000), n MINUTES 1 .. 60");
        Sentences.edges(() -> one(100, 0), (x, n) -> x.drunk(n, 0, 5, 1), 0, 100, 1000000, 100, -1);
        Sentences.edges(() -> one(100, 0), (x, n) -> x.drunk(0, 0, 5, n), 1, 100, 60, 100, -1);

        Sentences.says("a DRAW of m: s becomes (s times 1103 and 12345) modulo 1,000,003, it is s modulo m");
        int[][] seeds = {{0, 0}, {1, 0}, {895, 0}, {896, 0}, {999999, 0}, {1000000, 0}};
        for (int[] seed : seeds) {
            long s = (seed[0] * 1103L + 12345L) % 1000003L;
            LampTempers x = Sentences.street(1);
            x.drunk(seed[0], 0, 0, 1);
            Sentences.due(x.drawn(1), (int) (s % 2));
        }
        // By 895 it is 999,530, by 896 it is 1,000,633 and so 630; by 1,000,000 it is 9,036.
        int[][] around = {{895, 999530}, {896, 630}, {1000000, 9036}};
        for (int[] seed : around) {
            LampTempers x = new LampTempers();
            for (int i = 1; i < 12; i++) x.way(0, i);
            x.drunk(seed[0], 0, 0, 1);
            Sentences.due(x.drawn(1), seed[1] % 12);
        }

        Sentences.says("a DRAW by which s becomes 0, and the highest that it becomes");
        for (int want : new int[] {0, 1000002}) {
            int seed = 0;
            while (seed <= 1000000 && (seed * 1103L + 12345L) % 1000003L != want) seed++;
            LampTempers x = Sentences.street(1);
            x.drunk(seed, 0, 0, 2);
            Sentences.due(x.drawn(1), 0);
            Sentences.due(x.drawn(2), (int) ((want * 1103L + 12345L) % 1000003L % 2));
        }

        Sentences.says("by a DRAW of all WAYS there and one (0: it stays, else by the WAYS in rising numbers)");
        LampTempers x = new LampTempers();
        x.way(4, 9);
        x.way(4, 2);
        x.way(0, 1);
        x.way(7, 4);
        x.shutter(1, 1);
        // 12345, 13448, 14551, 15654 modulo 4: 1, 0, 3, 2.
        int[] ends = {9, 4, 7, 2};
        for (int seed = 0; seed < 4; seed++) {
            x.drunk(seed, 0, 4, 1);
            Sentences.due(x.drawn(0), 4);
            Sentences.due(x.drawn(1), ends[seed]);
            Sentences.due(x.drawn(119), ends[seed]);
        }
        x.drunk(0, 0, 8, 60);
        for (int minute = 0; minute < 120; minute += 17) Sentences.due(x.drawn(minute), 8);
        drunkRow();
    }

    private static void drunkRow() {
        Sentences.says("each MINUTE it goes, n times");
        for (int n : new int[] {1, 59, 60}) {
            LampTempers x = Sentences.street(1);
            x.drunk(77, 0, 0, n);
            long s = 77;
            int at = 0;
            for (int minute = 1; minute < 120; minute++) {
                if (minute <= n) {
                    s = (s * 1103 + 12345) % 1000003;
                    at = s % 2 == 0 ? at : 1 - at;
                }
                Sentences.due(x.drawn(minute), at);
            }
        }

        Sentences.says("One more LANTERN of a KIND, from MINUTE 0 on at a CORNER: how many MINUTES all LAMPS together are LIT");
        LampTempers x = one(100, 0);
        x.lamp(6, 3, 50);
        x.turn(1, 0, 1);
        Sentences.due(x.drunk(0, 2, 5, 1), 50);
        Sentences.due(x.drunk(0, 3, 6, 60), 100);
        Sentences.due(x.drunk(0, 2, 6, 1), 150);
        x.lantern(0, 0, 0);
        x.lantern(3, 10, 6);
        Sentences.due(x.drunk(0, 2, 5, 1), 10);
        Sentences.due(x.count(3), 2);
        Sentences.due(x.night(-1, 0), 110);

        Sentences.says("Where the latest DRUNK was in a MINUTE. NONE");
        x = new LampTempers();
        Sentences.due(x.drawn(0), -1);
        Sentences.due(x.drawn(119), -1);
        x.drunk(-1, 0, 3, 1);
        Sentences.due(x.drawn(0), -1);
        x.drunk(0, 0, 3, 1);
        Sentences.due(x.drawn(0), 3);
        Sentences.due(x.drawn(120), -1);
        Sentences.due(x.drawn(-1), -1);
        x.drunk(0, 0, 4, 61);
        Sentences.due(x.drawn(0), 3);
        x.drunk(0, 0, 4, 1);
        Sentences.due(x.drawn(0), 4);
    }

    private static void images() {
        Sentences.says("back: -1; -2 it was not kept");
        LampTempers x = Sentences.lamp();
        Sentences.due(x.back(0), -2);
        Sentences.due(x.back(1), -2);
        Sentences.due(x.back(2), -1);
        Sentences.due(x.back(-1), -1);
        Sentences.due(x.image(1), 0);
        Sentences.due(x.back(0), -2);
        x.lamp(1, 1, 1);
        Sentences.due(x.back(1), 0);
        Sentences.due(x.count(1), 1);
        Sentences.due(x.back(0), -2);

        Sentences.says("BACK to one all that it keeps is as it was then (IMAGES stay)");
        x = new LampTempers();
        x.image(0);
        LampTempers f = Sentences.full();
        f.end(0);
        f.image(1);
        int[] before = new int[17];
        for (int what = 0; what < 17; what++) before[what] = f.count(what);
        for (int i = 0; i < 24; i++) f.undo();
        f.doused();
        f.sweep();
        f.force(5);
        f.terms(0, 5);
        f.terms(1, 5);
        f.terms(2, 5);
        f.shutter(19, 1);
        f.put(9, 2, 1);
        f.image(0);
        for (int time = 0; time < 2; time++) {
            Sentences.due(f.back(1), 0);
            for (int what = 0; what < 17; what++) Sentences.due(f.count(what), before[what]);
            Sentences.due(f.of(19, 2), 0);
            Sentences.due(f.fact(9, 2), 109);
            Sentences.due(f.go(0, 11), -5);
            before[11]++;
            f.undo();
            f.lantern(0, 0, 0);
            before[11]++;
        }
        Sentences.due(f.back(0), 0);
        Sentences.due(f.count(2), 0);
        Sentences.due(f.count(3), 0);
        Sentences.due(f.count(13), 5);
        Sentences.due(f.fact(9, 2), 1);
        x.lamp(0, 0, 1);
        x.way(0, 1);
        Sentences.due(x.back(0), 0);
        Sentences.due(x.count(0), 0);
        Sentences.due(x.count(1), 0);
        Sentences.due(x.way(0, 1), 0);

        Sentences.says("BACK: LAWS and the LAW in FORCE, too");
        x = Sentences.lamp();
        x.image(0);
        Sentences.rule(x, "drinks 3");
        x.image(1);
        x.back(0);
        Sentences.due(x.count(5), 0);
        Sentences.due(x.force(0), -2);
        Sentences.rule(x, "drinks 5");
        Sentences.due(x.asks(0, 0, 0, 2), 5);
        x.back(1);
        Sentences.due(x.count(13), 0);
        Sentences.due(x.asks(0, 0, 0, 2), 3);
        Sentences.due(Sentences.law(x, "drinks 7"), 1);
        x.image(0);
        x.back(1);
        Sentences.due(Sentences.law(x, "drinks 8"), 1);
        x.back(0);
        x.force(1);
        Sentences.due(x.asks(0, 0, 0, 2), 7);

        Sentences.says("IMAGES keep all but the TAPE, FAULT, ASH, where ROUNDS stopped, the latest DRUNK");
        x = Sentences.lamp();
        x.image(0);
        Sentences.law(x, "shuns 1");
        Sentences.rounds(x, "light 0 at 0;light 1 at 0");
        Sentences.law(x, "drinks ?");
        Sentences.row(x, 1, 2);
        x.drunk(0, 0, 9, 1);
        x.feed(0, 0, 0, 0, 0);
        Sentences.due(x.back(0), 0);
        Sentences.due(x.count(7), 20);
        Sentences.due(x.fault(), 7);
        Sentences.due(x.ash(), 1);
        Sentences.due(x.stopped(), 1);
        Sentences.due(x.drawn(1), 9);
        Sentences.due(x.status(), 0);
    }

    private static void counts() {
        Sentences.says("count: 0 .. 16. NONE for others");
        LampTempers x = Sentences.full();
        x.terms(2, 7);
        x.force(4);
        int[] all = {20, 10, 24, 2, 6, 6, 8, 400, 0, 0, 0, 0, 0, 4, 0, 3, 7};
        for (int what = 0; what < all.length; what++) Sentences.due(x.count(what), all[what]);
        for (int what : new int[] {-1, 17, Sentences.MIN, Sentences.MAX}) Sentences.due(x.count(what), -1);
        LampTempers y = new LampTempers();
        int[] none = {0, 0, 0, 0, 0, 0, 0, 0, 0, 0, 0, 0, 0, -1, 0, 3, 0};
        for (int what = 0; what < none.length; what++) Sentences.due(y.count(what), none[what]);

        Sentences.says("8 .. 12 how many calls were REFUSED by -1, -2, -3, -5, -6 (IMAGES do not keep that)");
        x.image(0);
        x.way(0, 0);
        for (int i = 0; i < 2; i++) x.put(10, 0, 0);
        for (int i = 0; i < 3; i++) x.way(0, 1);
        for (int i = 0; i < 4; i++) x.lamp(0, 0, 1);
        x.end(0);
        for (int i = 0; i < 5; i++) x.row();
        x.back(0);
        for (int i = 0; i < 5; i++) Sentences.due(x.count(8 + i), i + 1);
        // Questions, and calls that are not refused by a number, count for none.
        x.end(-1);
        x.of(20, 0);
        x.burns(10, 0, 0);
        x.walk(12, 0, 0, 0, 0);
        x.stranger(0);
        x.drawn(120);
        x.count(17);
        for (int i = 0; i < 20; i++) x.feed(0, 0, 0, 0, 0);
        x.feed(0, 0, 0, 0, 0);
        for (int i = 0; i < 5; i++) Sentences.due(x.count(8 + i), i + 1);
        // A row of ash and rounds with many that can't be told are one call each.
        x.row();
        Sentences.due(x.ash(), 134);
        for (int i = 0; i < 5; i++) Sentences.due(x.count(8 + i), i + 1);
        Sentences.rounds(x, "light 10 at 0;light 10 at 0");
        Sentences.due(x.count(8), 1);
        Sentences.due(x.count(9), 2);
        Sentences.due(x.count(10), 4);
        Sentences.due(x.count(11), 4);
    }

    /** A call that is refused behind one that is not; it is counted once, by its own number. */
    private static void refused(LampTempers x, int why, ToIntFunction<LampTempers> call) {
        Sentences.due(x.terms(2, 0), 0);
        Sentences.due(x.status(), 0);
        int[] reasons = {-1, -2, -3, -5, -6};
        int[] before = new int[5];
        for (int i = 0; i < 5; i++) before[i] = x.count(8 + i);
        Sentences.due(call.applyAsInt(x), why);
        Sentences.due(x.status(), why);
        for (int i = 0; i < 5; i++) Sentences.due(x.count(8 + i), before[i] + (reasons[i] == why ? 1 : 0));
    }

    private static void granted(LampTempers x, int want, ToIntFunction<LampTempers> call) {
        Sentences.due(x.errand(12, 0, 0), -1);
        Sentences.due(x.status(), -1);
        Sentences.due(call.applyAsInt(x), want);
        Sentences.due(x.status(), 0);
    }

    private static void status() {
        Sentences.says("status: 0 if it was not, or ahead of any");
        LampTempers x = new LampTempers();
        Sentences.due(x.status(), 0);
        granted(x, 0, y -> y.way(0, 1));
        granted(x, 0, y -> y.shutter(0, 1));
        granted(x, 0, y -> y.lamp(0, 0, 9));
        granted(x, 0, y -> y.put(0, 0, 1));
        granted(x, 1, y -> y.turn(0, 9, 1));
        granted(x, 9, y -> y.undo());
        granted(x, 0, y -> y.lantern(0, 0, 0));
        granted(x, 1, y -> y.go(0, 0));
        granted(x, 0, y -> y.errand(0, 0, 0));
        granted(x, 3, y -> y.terms(1, 1));
        granted(x, 0, y -> Sentences.row(y, 9, 9));
        granted(x, 0, y -> Sentences.law(y, "shuns"));
        granted(x, 0, y -> Sentences.rounds(y, "light 9 at 9 if 1=2"));
        granted(x, -1, y -> y.force(0));
        granted(x, 0, y -> y.force(-1));
        granted(x, 1, y -> y.soot(0, 0, 0));
        granted(x, 0, y -> y.drunk(0, 0, 0, 1));
        granted(x, 0, y -> y.image(0));
        granted(x, 0, y -> y.back(0));

        Sentences.says("What the latest call was REFUSED by");
        refused(x, -1, y -> y.way(0, 0));
        refused(x, -3, y -> y.way(1, 0));
        refused(x, -1, y -> y.shutter(0, 2));
        refused(x, -2, y -> y.shutter(1, 1));
        refused(x, -1, y -> y.lamp(0, 0, 0));
        refused(x, -1, y -> y.put(0, 0, 12));
        refused(x, -2, y -> y.put(1, 0, 0));
        refused(x, -1, y -> y.turn(0, 0, 2));
        refused(x, -2, y -> y.turn(1, 0, 1));
        refused(x, -3, y -> y.undo());
        refused(x, -1, y -> y.lantern(6, 0, 0));
        refused(x, -1, y -> y.go(0, 12));
        refused(x, -2, y -> y.go(1, 0));
        refused(x, -3, y -> y.go(0, 5));
        refused(x, -1, y -> y.errand(0, 1, 0));
        refused(x, -1, y -> y.terms(3, 1));
        refused(x, -6, y -> y.row());
        refused(x, -6, y -> y.law());
        refused(x, -6, y -> y.rounds());
        refused(x, -3, y -> Sentences.rounds(y, "light 9 at 0"));
        refused(x, -2, y -> y.force(1));
        refused(x, -1, y -> y.soot(0, 0, 2));
        refused(x, -2, y -> y.soot(1, 0, 0));
        refused(x, -1, y -> y.drunk(0, 0, 0, 0));
        refused(x, -1, y -> y.image(2));
        refused(x, -1, y -> y.back(2));
        refused(x, -2, y -> y.back(1));

        Sentences.says("What the latest call was REFUSED by: -5");
        LampTempers f = Sentences.full();
        refused(f, -5, y -> y.law());
        refused(f, -5, y -> y.way(0, 11));
        refused(f, -5, y -> y.lamp(0, 0, 1));
        refused(f, -5, y -> y.turn(0, 0, 1));
        refused(f, -5, y -> y.lantern(0, 0, 0));
        refused(f, -5, y -> y.go(0, 11));
        refused(f, -5, y -> y.errand(0, 0, 0));
        refused(f, -5, y -> y.soot(0, 0, 0));
        refused(f, -5, y -> Sentences.rounds(y, "light 0 at 0"));
        Sentences.due(f.count(11), 9);

        Sentences.says("status: other calls leave it as it was");
        x.lantern(6, 0, 0);
        int[] others = {x.of(0, 0), x.far(0, 0, 0), x.fact(0, 0), x.doused(), x.feed(0, 0, 0, 0, 0), x.end(0), x.end(5), x.ash(), x.fault(),
            x.stopped(), x.asks(0, 0, 0, 1), x.burns(0, 0, 0), x.bright(0), x.night(0, 0), x.judge(0), x.round(0, -1), x.walk(0, 0, 0, 0, -1),
            x.worst(0, 0, 0, 0, -1), x.hang(1, 1, 1, 0, 0), x.shutters(0), x.would(0, 0), x.sweep(), x.stranger(0), x.changed(0), x.drawn(0),
            x.count(0), x.status()};
        Sentences.due(others.length, 27);
        Sentences.due(x.status(), -1);
        x.terms(1, 1);
        int[] again = {x.end(5), x.doused(), x.sweep(), x.fact(7, 7), x.walk(-1, 0, 0, 0, 0), x.hang(0, 0, 0, 0, 0), x.count(99)};
        Sentences.due(again.length, 7);
        Sentences.due(x.status(), 0);
    }

    private static void calls() {
        Sentences.says("An object is used for at most 512 calls");
        LampTempers x = new LampTempers();
        for (int i = 1; i < 512; i++) x.lamp(0, 0, 0);
        Sentences.due(x.count(8), 511);
        LampTempers y = new LampTempers();
        y.lamp(0, 0, 240);
        for (int i = 0; i < 127; i++) {
            y.feed(0x6c696768, 0x74203020, 0x61742030, 0, 0);
            y.end(12);
            Sentences.due(y.rounds(), 1);
            Sentences.due(y.undo(), 0);
        }
        Sentences.due(y.count(2), 0);
        Sentences.due(y.count(7), 0);
        LampTempers z = Sentences.full();
        z.end(0);
        for (int i = 0; i < 300; i++) {
            z.shutter(i % 20, i / 20 % 2);
            z.back(i % 2);
        }
        Sentences.due(z.count(9), 300);
    }

    public static void main(String[] args) {
        beginnings();
        switching();
        resting();
        shunning();
        drinking();
        light();
        rounds();
        walks();
        worst();
        hanging();
        hangingByLaws();
        shutters();
        wishes();
        soot();
        strangers();
        drunks();
        images();
        counts();
        status();
        calls();
        Sentences.finish();
    }
}
