/** Each answer at its highest, each row at its last place: towns in which all that has room is there. */
public final class FullTowns {
    private FullTowns() {
    }

    /** Ten lamps of one kind at the corners 0 .. 9 without ways, all on from minute 0 with oil 240. */
    private static LampTempers tenAlone() {
        LampTempers x = new LampTempers();
        for (int i = 0; i < 10; i++) {
            x.lamp(i, 0, 240);
            x.turn(i, 0, 1);
        }
        return x;
    }

    /** 17 ways among the corners 0 .. 6; ways 17, 18, 19 are from 4, 5, 6 to corner 11. */
    private static LampTempers twentyWays() {
        LampTempers x = new LampTempers();
        for (int i = 1; i < 7; i++) x.way(0, i);
        int[][] more = {{1, 4}, {1, 5}, {1, 6}, {2, 3}, {2, 4}, {2, 5}, {2, 6}, {3, 5}, {3, 6}, {4, 5}, {4, 6}};
        for (int[] way : more) x.way(way[0], way[1]);
        for (int i = 4; i < 7; i++) x.way(11, i);
        return x;
    }

    private static void ways() {
        Sentences.says("WAYS 0 .. 19: the last one is a WAY as others are");
        LampTempers x = twentyWays();
        Sentences.due(x.count(0), 20);
        Sentences.due(x.way(6, 11), -3);
        Sentences.due(x.way(11, 6), -3);
        Sentences.due(x.way(7, 11), -5);
        Sentences.due(x.of(19, 0), 6);
        Sentences.due(x.of(19, 1), 11);
        x.shutter(17, 1);
        x.shutter(18, 1);
        Sentences.due(x.far(11, 6, 1), 1);
        Sentences.due(x.far(11, 5, 0), 1);
        Sentences.due(x.far(11, 5, 1), 3);
        x.lantern(0, 0, 11);
        Sentences.due(x.go(0, 6), 1);
        Sentences.due(x.go(0, 11), 2);
        x.shutter(19, 1);
        Sentences.due(x.far(11, 6, 0), 1);
        Sentences.due(x.far(11, 6, 1), -1);
        // The first draw modulo 4: by seed 0 12345, so 1; by seed 2 14551, so 3.
        x.drunk(0, 0, 11, 1);
        Sentences.due(x.drawn(1), 4);
        x.drunk(2, 0, 11, 1);
        Sentences.due(x.drawn(1), 6);

        Sentences.says("of: the highest of two CORNERS; the lower one may be 10, the higher one 11");
        x = new LampTempers();
        Sentences.due(x.way(11, 10), 0);
        Sentences.due(x.of(0, 0), 10);
        Sentences.due(x.of(0, 1), 11);
    }

    private static void facts() {
        Sentences.says("put: what it was, the highest of all");
        LampTempers x = new LampTempers();
        x.lamp(11, 5, 240);
        Sentences.due(x.put(0, 0, 0), 11);
        Sentences.due(x.put(0, 1, 0), 5);
        Sentences.due(x.put(0, 2, 1), 240);
        Sentences.due(x.put(0, 0, 11), 0);
        Sentences.due(x.put(0, 1, 5), 0);
        Sentences.due(x.put(0, 2, 240), 1);
        for (int what = 0; what < 3; what++) Sentences.due(x.fact(0, what), what == 0 ? 11 : what == 1 ? 5 : 240);

        Sentences.says("go: 15 at most, staying at CORNER 11, too");
        x.lantern(0, 0, 11);
        for (int i = 1; i <= 15; i++) Sentences.due(x.go(0, 11), i);
        Sentences.due(x.go(0, 11), -5);

        Sentences.says("count: TERMS 0 .. 2 at their highest");
        Sentences.due(x.terms(0, 9), 0);
        Sentences.due(x.terms(1, 9), 3);
        Sentences.due(x.terms(2, 9), 0);
        for (int what = 14; what < 17; what++) Sentences.due(x.count(what), 9);

        Sentences.says("end: a full TAPE has 400 bytes");
        for (int i = 1; i <= 20; i++) Sentences.due(x.feed(0, 0, 0, 0, 0), 20 * i);
        Sentences.due(x.feed(0, 0, 0, 0, 0), -1);
        Sentences.due(x.end(401), -1);
        Sentences.due(x.end(400), 400);
        Sentences.due(x.count(7), 400);
        Sentences.due(x.end(0), 0);

        Sentences.says("ASH: all of 399 bytes, all of 400");
        for (int length = 399; length <= 400; length++) {
            for (int i = 0; i < 20; i++) x.feed(-1, -1, -1, -1, -1);
            x.end(length);
            Sentences.due(x.row(), 0);
            Sentences.due(x.ash(), length == 399 ? 133 : 134);
        }
    }

    private static void texts() {
        Sentences.says("8 brackets within one another, each behind a PART and a sign");
        String sum = "1+2*" + Sentences.many("[1+2*", "", 8) + "3" + Sentences.many("]", "", 8);
        LampTempers x = Sentences.lamp();
        Sentences.rule(x, "reaches 7if 2*1000+47=" + sum + ";drinks 5if " + sum + "=2*1000+46");
        Sentences.due(x.asks(0, 0, 0, 1), 7);
        Sentences.due(x.asks(0, 0, 0, 2), 1);

        Sentences.says("50 PARTS in one TEST: what stands last still matters");
        for (int right = 0; right < 2; right++) {
            String and = Sentences.many("not(not(1=1))", "and ", 20) + "and " + Sentences.many("not(1=0)", "and ", 4) + "and" + right + "=1";
            String or = Sentences.many("not(not(0=1))", "or ", 20) + "or " + Sentences.many("not(1=1)", "or ", 4) + "or" + right + "=1";
            for (int i = 0; i < 2; i++) {
                x = new LampTempers();
                x.lamp(0, 0, 1);
                x.lamp(0, 1, 1);
                Sentences.rule(x, "shuns if " + (i == 0 ? and : or));
                Sentences.due(x.asks(0, 1, 0, 0), right);
            }
        }

        Sentences.says("50 PARTS in one SUM");
        x = Sentences.lamp();
        Sentences.rule(x, "reaches 1" + Sentences.many("+1-1", "", 24) + "+4");
        Sentences.due(x.asks(0, 0, 0, 1), 5);
        x = Sentences.lamp();
        Sentences.rule(x, "drinks 9" + Sentences.many("*7/7", "", 24) + "-5;shuns");
        Sentences.due(x.asks(0, 0, 0, 2), 4);
    }

    private static void rounds() {
        Sentences.says("lamps, switches, last, done, run: up to 10, 23, 119, 23, 19; wind up to 9");
        LampTempers x = tenAlone();
        while (x.count(2) > 0) x.undo();
        Sentences.due(Sentences.rounds(x, "light lamps-1 at lamps"), 1);
        Sentences.due(x.undo(), 10);
        Sentences.due(x.fact(9, 0), 9);
        String[] texts = {"light 0 at switches times 20;light 0 at switches times 4", "light 0 at done times 20;light 0 at done times 4"};
        for (String text : texts) {
            Sentences.due(Sentences.rounds(x, text), 24);
            for (int i = 23; i >= 0; i--) Sentences.due(x.undo(), i);
        }
        Sentences.due(Sentences.rounds(x, "light 0 at run times 20"), 20);
        for (int i = 19; i >= 0; i--) Sentences.due(x.undo(), i);
        Sentences.due(Sentences.rounds(x, "light 0 at 119;light 1 at last"), 2);
        Sentences.due(x.undo(), 119);
        Sentences.due(x.undo(), 119);
        x.terms(0, 9);
        Sentences.due(Sentences.rounds(x, "light wind at wind"), 1);
        Sentences.due(x.undo(), 9);

        Sentences.says("switches, done: 24, where there is no room");
        for (int i = 0; i < 24; i++) x.turn(0, 0, 1);
        Sentences.due(Sentences.rounds(x, "light 0 at 0 if switches<24"), 0);
        Sentences.due(Sentences.rounds(x, "light 0 at 0 if switches=24"), -5);
        for (int i = 0; i < 24; i++) x.undo();
        Sentences.due(Sentences.rounds(x, "light 0 at 0 times 20;light 0 at 0 times 20 if done<24"), 24);
        for (int i = 0; i < 24; i++) x.undo();
        Sentences.due(Sentences.rounds(x, "light 0 at 0 times 20;light 0 at 0 times 20 if done<25"), -5);
        Sentences.due(x.stopped(), 1);

        Sentences.says("\"each\" and \"at\" beyond all MINUTES: what they are together matters");
        Sentences.due(Sentences.rounds(x, "light 0 at 0 each run/16*[268*1000*1000+435*1000+456] times 17"), -3);
        Sentences.due(Sentences.rounds(x, "light 0 at 0 each run/16*[268*1000*1000+435*1000+456] times 16"), 16);
        for (int i = 0; i < 16; i++) x.undo();
        Sentences.due(Sentences.rounds(x, "light 0 at 5-run*1000*1000*50 each 1000*1000*50 times 20"), 20);
        for (int i = 0; i < 20; i++) Sentences.due(x.undo(), 5);
        Sentences.due(Sentences.rounds(x, "light 0 at 5-run*1000*1000*100 each 1000*1000*100 times 11"), 11);
        for (int i = 0; i < 11; i++) Sentences.due(x.undo(), 5);
        Sentences.due(Sentences.rounds(x, "light 0 at 5-run*1000*1000*100 each 1000*1000*100 times 12"), -3);

        Sentences.says("stopped: the 12th CLAUSE");
        Sentences.due(Sentences.rounds(x, Sentences.many("light 0 at 0if 0=1;", "", 11) + "light 10 at 0"), -3);
        Sentences.due(x.stopped(), 11);
    }

    private static void nights() {
        Sentences.says("In how many MINUTES all LAMPS are LIT together: 1,200 at most");
        LampTempers x = tenAlone();
        x.way(10, 11);
        Sentences.due(x.night(-1, 0), 1200);
        Sentences.due(x.night(-1, 1), 0);
        Sentences.due(x.burns(9, 119, 1), 120);
        Sentences.due(x.drunk(1, 0, 11, 60), 1200);
        Sentences.due(x.worst(0, 0, 11, 3, -1), 1200);
        for (int i = 0; i < 3; i++) Sentences.due(x.worst(0, 0, 11, 3, i), 10);
        Sentences.due(x.worst(0, 119, 10, 0, -1), 1200);
        Sentences.due(x.bright(119), 1023);
        Sentences.due(x.stranger(-1), -1);

        Sentences.says("how often it goes OUT: in each MINUTE by REST 1");
        x = new LampTempers();
        x.terms(1, 1);
        for (int i = 0; i < 10; i++) {
            x.lamp(5, 0, 240);
            x.turn(i, 0, 1);
        }
        x.lantern(0, 0, 5);
        Sentences.due(x.burns(9, 119, 2), 120);
        Sentences.due(x.burns(9, 118, 2), 119);
        Sentences.due(x.burns(9, 119, 1), 240);
        Sentences.due(x.night(0, 1), 120);
        Sentences.due(x.night(-1, 1), 1200);
        Sentences.due(x.night(-1, 0), 0);
        Sentences.due(x.would(-1, 0), 1023);

        Sentences.says("the first MINUTE in which one goes OUT: the LAMP of the highest number alone");
        x = tenAlone();
        x.lantern(0, 119, 9);
        Sentences.due(x.night(-1, 2), 119);
        Sentences.due(x.night(9, 2), 119);
        Sentences.due(x.night(8, 2), -1);
        Sentences.due(x.night(-1, 1), 1);
        Sentences.due(x.night(-1, 0), 1199);
        Sentences.due(x.would(-1, 0), 512);
        Sentences.due(x.would(9, 0), 1);
        Sentences.due(x.would(9, 1), 120);

        Sentences.says("how many ERRANDS are DARK: all 6; the first may be the last one told");
        x = new LampTempers();
        for (int i = 0; i < 5; i++) x.errand(i, 119, 119);
        x.errand(11, 118, 119);
        Sentences.due(x.judge(0), 5);
        Sentences.due(x.judge(1), 118);
        Sentences.due(x.judge(2), 6);
        x.lantern(0, 118, 11);
        Sentences.due(x.judge(0), 0);
        Sentences.due(x.judge(1), 119);
        Sentences.due(x.judge(2), 5);
    }

    private static void goings() {
        Sentences.says("A ROUND to ten CORNERS about one; the last LAMP can't be come to");
        LampTempers x = new LampTempers();
        for (int i = 1; i < 12; i++) x.way(0, i);
        for (int i = 0; i < 10; i++) x.lamp(10 - i, 0, 1);
        Sentences.due(x.round(11, -1), 20);
        Sentences.due(x.round(0, -1), 19);
        Sentences.due(x.round(10, -1), 18);
        for (int i = 0; i < 10; i++) Sentences.due(x.round(11, i), i);
        Sentences.due(x.round(11, 10), -1);
        x = new LampTempers();
        for (int i = 0; i < 10; i++) x.lamp(i < 9 ? 0 : 1, 0, 1);
        Sentences.due(x.round(0, -1), -1);
        Sentences.due(x.round(0, 9), -1);
        x.put(9, 0, 0);
        Sentences.due(x.round(0, -1), 0);
        Sentences.due(x.round(0, 9), 9);

        Sentences.says("A WALK of all MINUTES, whose last CORNER is light in the last one");
        int[][] ends = {{10, 11}, {1, 0}};
        for (int[] end : ends) {
            x = new LampTempers();
            x.way(end[0], end[1]);
            Sentences.rule(x, "reaches 0");
            x.lantern(0, 0, end[0]);
            x.lantern(0, 119, end[1]);
            Sentences.due(x.walk(end[0], 0, end[1], 1, -1), 119);
            Sentences.due(x.walk(end[0], 0, end[1], 1, 118), end[0]);
            Sentences.due(x.walk(end[0], 0, end[1], 1, 119), end[1]);
            Sentences.due(x.walk(end[0], 0, end[1], 1, 120), -1);
            Sentences.due(x.walk(end[1], 119, end[0], 1, -1), -1);
            Sentences.due(x.walk(end[1], 119, end[1], 1, 0), end[1]);
        }

        Sentences.says("A LANTERN's WORST that ends at CORNER 11");
        x = new LampTempers();
        for (int i = 8; i < 11; i++) x.way(i, i + 1);
        x.lamp(11, 5, 240);
        x.turn(0, 0, 1);
        Sentences.rule(x, "shuns if other=kind and near=0");
        int[] row = {9, 10, 11};
        Sentences.due(x.worst(5, 0, 8, 3, -1), 3);
        for (int i = 0; i < 3; i++) Sentences.due(x.worst(5, 0, 8, 3, i), row[i]);
        Sentences.due(x.worst(5, 0, 10, 1, -1), 1);
        Sentences.due(x.worst(5, 0, 10, 1, 0), 11);
        Sentences.due(x.worst(5, 0, 11, 3, -1), 0);
        for (int i = 0; i < 3; i++) Sentences.due(x.worst(5, 0, 11, 3, i), i < 2 ? 10 : 11);
        Sentences.due(x.worst(5, 116, 8, 3, -1), 119);
        Sentences.due(x.worst(5, 117, 8, 3, -1), 120);
    }

    private static void plans() {
        Sentences.says("To HANG: 6 LAMPS, in 729 ways; the highest SITES, KINDS");
        LampTempers x = new LampTempers();
        int sites = 63 << 6;
        int kinds = 7 << 3;
        Sentences.due(x.hang(sites, kinds, sites, 119, 0), 6);
        Sentences.due(x.hang(sites, kinds, sites, 119, 1), 729);
        for (int i = 0; i < 6; i++) Sentences.due(x.hang(sites, kinds, sites, 119, 2 + i), 3);
        Sentences.due(x.hang(sites, kinds, sites, 119, 8), -1);
        Sentences.due(x.hang(sites, 32, sites, 119, 1), 1);
        Sentences.due(x.hang(sites, 32, sites, 119, 7), 5);
        Sentences.due(x.hang(sites, 32, 2048, 119, 6), 100);
        Sentences.due(x.hang(sites, 32, 2048, 119, 7), 5);

        Sentences.says("SHUTTERS: the last three of 20 WAYS");
        x = twentyWays();
        x.lamp(0, 0, 240);
        x.lamp(11, 0, 240);
        x.turn(0, 0, 1);
        x.turn(1, 0, 1);
        Sentences.rule(x, "shuns if near>0");
        Sentences.due(x.shutters(0), 3);
        Sentences.due(x.shutters(1), 7 << 17);
        Sentences.due(x.shutters(2), 1);
        x.shutter(18, 1);
        Sentences.due(x.shutters(0), 2);
        Sentences.due(x.shutters(1), 5 << 17);
        Sentences.due(x.shutters(2), 1);

        Sentences.says("SHUTTERS: in how many ways, each of three streets shuttered once");
        x = new LampTempers();
        // Three streets from corner 0 to 11: by 4, 4 and 5 ways.
        int[][] streets = {{0, 1, 2, 3, 11}, {0, 4, 5, 6, 11}, {0, 7, 8, 9, 10, 11}};
        for (int[] street : streets) for (int i = 1; i < street.length; i++) x.way(street[i - 1], street[i]);
        x.lamp(0, 0, 240);
        x.lamp(11, 0, 240);
        x.turn(0, 0, 1);
        x.turn(1, 119, 1);
        Sentences.rule(x, "shuns if near>0");
        Sentences.due(x.shutters(0), 3);
        Sentences.due(x.shutters(1), 1 | 1 << 4 | 1 << 8);
        Sentences.due(x.shutters(2), 80);
        x = Sentences.street(11);
        x.lamp(0, 0, 240);
        x.lamp(11, 0, 240);
        x.turn(0, 0, 1);
        x.turn(1, 119, 1);
        Sentences.rule(x, "shuns if near>0");
        Sentences.due(x.shutters(0), 1);
        Sentences.due(x.shutters(1), 1);
        Sentences.due(x.shutters(2), 11);
    }

    private static void guesses() {
        Sentences.says("a STRANGER with OIL 240: not one less, not one more");
        for (int minute = 27; minute <= 28; minute++) {
            LampTempers x = new LampTempers();
            x.lamp(5, 2, 100);
            x.turn(0, minute, 1);
            // The stranger has drunk 234 ahead of minute 26, 239 behind it, and what is left in minute 27.
            Sentences.rule(x, "shuns if lamp=0;drinks 1;drinks 9 if minute<26;drinks 5 if minute=26");
            x.soot(0, minute, 0);
            Sentences.due(x.stranger(-1), minute == 27 ? 72 : 0);
        }

        Sentences.says("CHANGED: 50 LAMPS and KINDS at most; STRANGERS: 72 at most");
        LampTempers x = new LampTempers();
        for (int i = 0; i < 10; i++) {
            if (i == 9) {
                Sentences.due(x.stranger(-1), 72);
                Sentences.due(x.stranger(71), 71);
                Sentences.due(x.stranger(72), -1);
            }
            x.lamp(11, 0, 240);
        }
        Sentences.due(x.changed(-1), 50);
        Sentences.due(x.changed(0), 1);
        Sentences.due(x.changed(49), 59);
        Sentences.due(x.changed(50), -1);
    }

    private static void images() {
        Sentences.says("BACK: the last of 6 LAWS is the one that was there then");
        LampTempers x = Sentences.lamp();
        for (int i = 0; i < 5; i++) Sentences.law(x, "drinks " + i);
        x.image(0);
        Sentences.due(Sentences.law(x, "drinks 7"), 5);
        x.force(5);
        x.image(1);
        x.back(0);
        Sentences.due(x.count(5), 5);
        Sentences.due(x.force(5), -2);
        Sentences.due(Sentences.law(x, "drinks 8"), 5);
        x.force(5);
        Sentences.due(x.asks(0, 0, 0, 2), 8);
        x.back(1);
        Sentences.due(x.count(5), 6);
        Sentences.due(x.count(13), 5);
        Sentences.due(x.asks(0, 0, 0, 2), 7);
        Sentences.due(Sentences.law(x, "drinks 9"), -5);
        x.back(0);
        Sentences.due(x.count(13), -1);
        Sentences.due(x.asks(0, 0, 0, 2), 1);
    }

    public static void main(String[] args) {
        ways();
        facts();
        texts();
        rounds();
        nights();
        goings();
        plans();
        guesses();
        images();
        Sentences.finish();
    }
}
