/** The sentences on what laws tell and on how rounds are run (part II), with law(), rounds(), force(), fault(), stopped(). */
public final class LawBoundaries {
    private LawBoundaries() {
    }

    /** Lamps of kinds 2, 2, 3 at corners 0, 1, 2 of a street, with oil 100, all on from minutes 10, 20, 30. */
    private static LampTempers three() {
        LampTempers x = Sentences.street(3);
        x.lamp(0, 2, 100);
        x.lamp(1, 2, 100);
        x.lamp(2, 3, 100);
        for (int i = 0; i < 3; i++) x.turn(i, 10 * i + 10, 1);
        return x;
    }

    private static LampTempers three(String law) {
        LampTempers x = three();
        Sentences.rule(x, law);
        return x;
    }

    /** A lantern of kind 4 at the end of a street of all corners. */
    private static LampTempers carried(String law) {
        LampTempers x = Sentences.street(11);
        x.lantern(4, 0, 0);
        Sentences.rule(x, law);
        return x;
    }

    private static void laws() {
        Sentences.says("LAWS, 6 at most; law: its number");
        LampTempers x = Sentences.lamp();
        for (int i = 0; i < 6; i++) Sentences.due(Sentences.law(x, "drinks " + (i + 2)), i);
        Sentences.due(Sentences.law(x, "drinks 9"), -5);
        Sentences.due(x.count(5), 6);
        for (int i = 0; i < 6; i++) {
            x.force(i);
            Sentences.due(x.asks(0, 0, 0, 2), i + 2);
        }

        Sentences.says("law: -5 (ahead of reading it; the TAPE is empty then, too)");
        Sentences.due(Sentences.law(x, "no law"), -5);
        Sentences.due(x.fault(), -1);
        Sentences.due(x.count(7), 0);
        Sentences.due(x.law(), -5);
        Sentences.due(x.row(), -6);
        Sentences.due(Sentences.rounds(x, "light ?"), -6);
        Sentences.due(x.fault(), 6);
        Sentences.due(Sentences.law(x, "shuns"), -5);
        Sentences.due(x.fault(), 6);

        Sentences.says("law: -6 (blanks alone: FAULT at the end)");
        LampTempers y = new LampTempers();
        Sentences.due(y.law(), -6);
        Sentences.due(y.fault(), 0);
        Sentences.due(Sentences.law(y, " "), -6);
        Sentences.due(y.fault(), 1);
        Sentences.due(Sentences.law(y, " ".repeat(400)), -6);
        Sentences.due(y.fault(), 400);
        Sentences.due(Sentences.law(y, "shuns or"), -6);
        Sentences.due(y.fault(), 6);
        Sentences.due(y.count(5), 0);
        Sentences.due(y.count(7), 0);
        Sentences.due(Sentences.law(y, "shuns"), 0);
        Sentences.due(y.count(7), 0);

        Sentences.says("FAULT of the latest law(), rounds() that read a TEXT: its place; NONE without");
        LampTempers z = new LampTempers();
        Sentences.due(z.fault(), -1);
        Sentences.law(z, "shuns 1");
        Sentences.due(z.fault(), 6);
        Sentences.rounds(z, "light 0 at 0");
        Sentences.due(z.status(), -3);
        Sentences.due(z.fault(), -1);
        Sentences.rounds(z, "light");
        Sentences.due(z.fault(), 5);
        Sentences.law(z, "shuns");
        Sentences.due(z.fault(), -1);
        z.row();
        z.law();
        Sentences.due(z.fault(), 0);
    }

    private static void force() {
        Sentences.says("one is in FORCE (NONE at first); A LAW is in FORCE (NONE: none): which was. -2");
        LampTempers x = Sentences.lamp();
        Sentences.due(x.count(13), -1);
        Sentences.due(x.force(-1), -1);
        Sentences.due(x.status(), 0);
        Sentences.due(x.force(0), -2);
        Sentences.due(x.force(-2), -2);
        Sentences.law(x, "drinks 4");
        Sentences.due(x.count(13), -1);
        Sentences.due(x.asks(0, 0, 0, 2), 1);
        Sentences.due(x.force(1), -2);
        Sentences.due(x.force(0), -1);
        Sentences.due(x.status(), 0);
        Sentences.due(x.force(0), 0);
        Sentences.due(x.asks(0, 0, 0, 2), 4);
        Sentences.due(x.force(1), -2);
        Sentences.due(x.count(13), 0);
        Sentences.due(x.force(-1), 0);
        Sentences.due(x.asks(0, 0, 0, 2), 1);
        Sentences.edges(Sentences::full, (z, n) -> z.force(n), -1, -1, 5, -1, -2);
    }

    private static void holding() {
        Sentences.says("A CLAUSE HOLDS, if its \"if\" is so, and neither that nor its SUM is BROKEN");
        LampTempers x = three("reaches 3;reaches 4 if 1=2;reaches 5 if 1/0=1;reaches 6/0;reaches 7/0 if 1=1");
        Sentences.due(x.asks(0, 0, 0, 1), 3);
        x = three("shuns if 1/0=1;shuns if not 1/0=1;shuns if 1=2");
        Sentences.due(x.asks(0, 1, 0, 0), 0);
        x = three("shuns if 1/0=1;shuns if 1=1;shuns if 1=2");
        Sentences.due(x.asks(0, 1, 0, 0), 1);
        x = three("drinks 5;drinks 6/0");
        Sentences.due(x.asks(0, 0, 0, 2), 5);
        x = three("drinks 5/0");
        Sentences.due(x.asks(0, 0, 0, 2), 1);
        x = three("reaches 1000*1000*1000*2;drinks 0-1000*1000*1000-1");
        Sentences.due(x.asks(0, 0, 0, 1), 1);
        Sentences.due(x.asks(0, 0, 0, 2), 1);

        Sentences.says("without a LAW in FORCE: of one KIND, SIGHT 0 or 1");
        LampTempers y = Sentences.street(3);
        for (int i = 0; i < 4; i++) y.lamp(i, 0, 9);
        y.lamp(0, 0, 9);
        y.lamp(0, 1, 9);
        y.lamp(9, 0, 9);
        Sentences.due(y.asks(0, 4, 0, 0), 1);
        Sentences.due(y.asks(0, 1, 0, 0), 1);
        Sentences.due(y.asks(1, 0, 0, 0), 1);
        Sentences.due(y.asks(0, 2, 0, 0), 0);
        Sentences.due(y.asks(0, 3, 0, 0), 0);
        Sentences.due(y.asks(0, 5, 0, 0), 0);
        Sentences.due(y.asks(0, 6, 0, 0), 0);
        y.shutter(0, 1);
        Sentences.due(y.asks(0, 1, 0, 0), 0);
        Sentences.due(y.asks(0, 4, 0, 0), 1);
        Sentences.rule(y, "drinks 2");
        Sentences.due(y.asks(0, 4, 0, 0), 0);
    }

    private static void words() {
        Sentences.says("near: SIGHT from CORNER to CORNER, -1 if there is none");
        LampTempers x = three("shuns if near=0-1");
        Sentences.due(x.asks(0, 1, 0, 0), 0);
        x.shutter(0, 1);
        Sentences.due(x.asks(0, 1, 0, 0), 1);
        Sentences.due(x.asks(1, 2, 0, 0), 0);
        x.put(1, 0, 0);
        Sentences.due(x.asks(0, 1, 0, 0), 0);
        x = three("shuns if near=0");
        Sentences.due(x.asks(0, 1, 0, 0), 0);
        x.put(1, 0, 0);
        Sentences.due(x.asks(0, 1, 0, 0), 1);
        x = three("shuns if near=2");
        Sentences.due(x.asks(0, 2, 0, 0), 1);
        x.way(0, 2);
        Sentences.due(x.asks(0, 2, 0, 0), 0);
        x.shutter(3, 1);
        Sentences.due(x.asks(0, 2, 0, 0), 1);

        Sentences.says("later: 1 if the LAMP burns since a later MINUTE than the other one, or that is a LANTERN, else 0");
        x = three("shuns if later=1 and near=1 and minute>25");
        Sentences.due(x.burns(0, 30, 3), 0);
        Sentences.due(x.burns(1, 26, 3), 1);
        Sentences.due(x.burns(2, 30, 3), 0);
        Sentences.due(x.burns(1, 29, 3), 1);
        x = three("shuns if later=0 and near=1 and lamp<2 and other=2");
        Sentences.due(x.burns(0, 20, 3), 1);
        Sentences.due(x.burns(1, 20, 3), 0);
        // Since the same minute neither is later.
        x = three("shuns if later=1");
        x.turn(0, 20, 1);
        Sentences.due(x.burns(0, 20, 3), 0);
        Sentences.due(x.burns(1, 20, 3), 0);
        x = three("shuns if later=0 and lamp=0 and other=2");
        x.turn(0, 20, 1);
        Sentences.due(x.burns(0, 20, 3), 1);
        LampTempers y = three("shuns if later=1 and other=5");
        y.lantern(5, 15, 3);
        Sentences.due(y.burns(0, 14, 3), 0);
        Sentences.due(y.burns(0, 15, 3), 1);
        Sentences.due(y.burns(1, 20, 3), 1);
        Sentences.rule(y, "shuns if later=0 and other=5");
        Sentences.due(y.night(-1, 1), 0);
        Sentences.rule(y, "shuns if other=5 and near=3");
        Sentences.due(y.burns(0, 15, 3), 1);
        Sentences.due(y.burns(1, 20, 3), 0);

        Sentences.says("minute, wind, mood");
        x = three("reaches minute/10;drinks wind+mood*2;shuns if wind=3 and mood=4 and minute=119");
        Sentences.due(x.asks(0, 0, 0, 1), 0);
        Sentences.due(x.asks(0, 0, 79, 1), 7);
        Sentences.due(x.asks(0, 0, 119, 1), 9);
        Sentences.due(x.asks(0, 0, 0, 2), 0);
        x.terms(0, 3);
        Sentences.due(x.asks(0, 0, 0, 2), 3);
        x.terms(2, 2);
        Sentences.due(x.asks(0, 0, 0, 2), 7);
        Sentences.due(x.asks(0, 1, 119, 0), 0);
        x.terms(2, 4);
        Sentences.due(x.asks(0, 1, 119, 0), 1);
        Sentences.due(x.asks(0, 1, 118, 0), 0);

        Sentences.says("asks: later as told by numbers: 1 if its number is higher");
        x = three("shuns if later=1");
        Sentences.due(x.asks(1, 0, 119, 0), 1);
        Sentences.due(x.asks(0, 1, 119, 0), 0);
        Sentences.due(x.asks(1, 2, 0, 0), 0);
        Sentences.due(x.asks(2, 0, 0, 0), 1);
        Sentences.due(three("shuns if later=0").asks(0, 1, 0, 0), 1);
        Sentences.due(three("shuns if later=0").asks(1, 0, 0, 0), 0);

        Sentences.says("asks: NONE (the same one, for 0); the other one aside for both");
        x = three();
        Sentences.due(x.asks(0, 0, 0, 0), -1);
        Sentences.due(x.asks(2, 2, 0, 0), -1);
        Sentences.due(x.asks(0, 0, 0, 1), 1);
        Sentences.due(x.asks(2, 2, 0, 2), 1);
        Sentences.due(x.asks(0, -7, 0, 1), 1);
        Sentences.due(x.asks(0, Sentences.MAX, 0, 2), 1);
        Sentences.due(x.asks(0, 3, 0, 0), -1);
        Sentences.due(x.asks(0, -1, 0, 0), -1);
        Sentences.due(x.asks(3, 0, 0, 1), -1);
        Sentences.due(x.asks(-1, 0, 0, 2), -1);
    }

    private static void telling() {
        Sentences.says("\"reaches\", \"drinks\": other, near, later -1");
        LampTempers x = three("reaches other+5;drinks other+3");
        Sentences.due(x.asks(0, 1, 0, 1), 4);
        Sentences.due(x.asks(0, 1, 0, 2), 2);
        x = three("reaches near+5;drinks near+3");
        Sentences.due(x.asks(0, 1, 0, 1), 4);
        Sentences.due(x.asks(0, 1, 0, 2), 2);
        x = three("reaches later+5;drinks later+3");
        Sentences.due(x.asks(1, 0, 0, 1), 4);
        Sentences.due(x.asks(1, 0, 0, 2), 2);
        x = three("reaches near+1;drinks near+2");
        Sentences.due(x.bright(10), 1);
        Sentences.due(x.burns(0, 10, 1), 99);

        Sentences.says("of a LAMP or a LANTERN (lamp -1) alone");
        Sentences.due(carried("reaches lamp+3").bright(0), 7);
        Sentences.due(carried("reaches 5 if lamp=0-1 and kind=4 and other=0-1 and near=0-1 and later=0-1").bright(0), 63);
        Sentences.due(carried("reaches kind").bright(0), 31);
        Sentences.due(carried("reaches minute").bright(0), 1);
        Sentences.due(carried("reaches minute").bright(3), 15);
        Sentences.due(carried("reaches minute").bright(119), 1023);

        Sentences.says("It REACHES as far as the last \"reaches\" that HOLDS tells, 0 .. 9 (else the nearest), 1 without");
        x = three("drinks 2");
        Sentences.due(x.asks(0, 0, 0, 1), 1);
        Sentences.due(three("reaches 7 if 1=2").asks(0, 0, 0, 1), 1);
        int[][] sums = {{0, 0}, {9, 9}, {10, 9}, {8, 8}, {1000, 9}};
        for (int[] sum : sums) {
            Sentences.due(three("reaches " + sum[0]).asks(0, 0, 0, 1), sum[1]);
            Sentences.due(three("drinks " + sum[0]).asks(0, 0, 0, 2), sum[1]);
        }
        Sentences.due(three("reaches 0-1").asks(0, 0, 0, 1), 0);
        Sentences.due(three("reaches 0-1000*1000*1000").asks(0, 0, 0, 1), 0);
        Sentences.due(three("reaches 1000*1000*1000").asks(0, 0, 0, 1), 9);
        Sentences.due(three("reaches 3;reaches 5;reaches 4").asks(0, 0, 0, 1), 4);
        Sentences.due(three("reaches 3;reaches 5;reaches 4 if kind=9").asks(0, 0, 0, 1), 5);
        Sentences.due(carried("reaches 9").bright(0), 1023);
        Sentences.due(carried("reaches 10").bright(0), 1023);
        Sentences.due(carried("reaches 0").bright(0), 1);
        Sentences.due(carried("reaches 0-9").bright(0), 1);
        LampTempers y = carried("reaches 9");
        y.force(-1);
        Sentences.due(y.bright(0), 3);

        Sentences.says("a LAMP DRINKS what \"drinks\" tells, 0 .. 9, 1 without");
        Sentences.due(three("reaches 2").asks(0, 0, 0, 2), 1);
        Sentences.due(three("drinks 0-1").asks(0, 0, 0, 2), 0);
        Sentences.due(three("drinks 3;drinks 5;drinks 4").asks(0, 0, 0, 2), 4);
        Sentences.due(three("drinks 0").night(0, 0), 110);
        Sentences.due(three("drinks 0").burns(0, 119, 1), 100);
        Sentences.due(three("drinks 0-5").burns(0, 119, 1), 100);
        Sentences.due(three("drinks 9").burns(0, 10, 1), 91);
        Sentences.due(three("drinks 10").burns(0, 10, 1), 91);
        Sentences.due(three("reaches 2").burns(0, 10, 1), 99);
    }

    private static LampTempers pair() {
        LampTempers x = new LampTempers();
        x.lamp(0, 0, 100);
        x.lamp(0, 1, 100);
        x.terms(0, 4);
        return x;
    }

    private static void undone(LampTempers x, int... minutes) {
        for (int minute : minutes) Sentences.due(x.undo(), minute);
    }

    private static void rounds() {
        Sentences.says("each as often as TIMES tell (once without)");
        LampTempers x = pair();
        Sentences.due(Sentences.rounds(x, "light 0 at 5"), 1);
        Sentences.due(Sentences.rounds(x, "light 0 at 5 times 1"), 1);
        Sentences.due(Sentences.rounds(x, "light 0 at 5 times 2"), 2);
        Sentences.due(Sentences.rounds(x, "light 0 at 5 times 20"), 20);
        Sentences.due(x.count(2), 24);

        Sentences.says("its \"if\" is asked (not run, if it is not so or BROKEN)");
        x = pair();
        Sentences.due(Sentences.rounds(x, "light 0 at 5 if 1=2"), 0);
        Sentences.due(Sentences.rounds(x, "light 0 at 5 if 1/0=1"), 0);
        Sentences.due(Sentences.rounds(x, "light 0 at 5 if not 1/0=1"), 0);
        Sentences.due(Sentences.rounds(x, "light 9 at 1/0 if 1=2"), 0);
        Sentences.due(x.status(), 0);
        Sentences.due(x.stopped(), -1);
        Sentences.due(Sentences.rounds(x, "light 0 at 5 times 3 if done<2"), 2);
        // It is asked each time: what is not so first may be so then.
        Sentences.due(Sentences.rounds(x, "light 0 at 5 if done=1;light 0 at 6;light 0 at 7 if done=1"), 2);
        undone(x, 7, 6);

        Sentences.says("at the MINUTE \"at\" tells and as many \"each\" (0 without) more as that CLAUSE was run ahead");
        x = pair();
        Sentences.due(Sentences.rounds(x, "light 0 at 5 each 7 times 3"), 3);
        undone(x, 19, 12, 5);
        Sentences.due(Sentences.rounds(x, "light 0 at 5 times 2"), 2);
        undone(x, 5, 5);
        Sentences.due(Sentences.rounds(x, "light 0 at 19 each 0-7 times 3"), 3);
        undone(x, 5, 12, 19);
        // Another clause begins anew; a time that is not run is none ahead.
        Sentences.due(Sentences.rounds(x, "light 0 at 5 each 7 times 2;light 0 at 6 each 7"), 3);
        undone(x, 6, 12, 5);
        Sentences.due(Sentences.rounds(x, "light 0 at 3;snuff 1 at 5 each 7 times 3 if done=1"), 2);
        undone(x, 5, 3);
        Sentences.due(Sentences.rounds(x, "light 0 at run*10 each 1 times 3"), 3);
        undone(x, 22, 11, 0);
        Sentences.due(Sentences.rounds(x, "light 0 at 0 each 119 times 2"), 2);
        undone(x, 119, 0);
        Sentences.due(Sentences.rounds(x, "light 0 at 0 each 120 times 2"), -3);
        Sentences.due(Sentences.rounds(x, "light 0 at 0 each 0-1 times 2"), -3);
        Sentences.due(Sentences.rounds(x, "light 0 at 0 each 0-1"), 1);
        Sentences.due(x.count(2), 1);
    }

    private static void roundWords() {
        Sentences.says("lamps; switches: how many are told then");
        LampTempers x = pair();
        x.turn(0, 50, 1);
        Sentences.due(Sentences.rounds(x, "light 1 at lamps;light 1 at switches+10 times 3"), 4);
        undone(x, 14, 13, 12, 2);
        Sentences.due(Sentences.rounds(new LampTempers(), "light 0 at 0 if lamps>0 or switches>0"), 0);

        Sentences.says("last: the MINUTE of the SWITCH told last in this TEXT (-1: none)");
        Sentences.due(Sentences.rounds(x, "light 0 at last+1"), 1);
        undone(x, 0);
        Sentences.due(Sentences.rounds(x, "light 0 at 30;snuff 1 at last+3 times 2"), 3);
        undone(x, 36, 33, 30);
        Sentences.due(Sentences.rounds(x, "light 0 at last"), -3);

        Sentences.says("done: how many were told in it; run: how often this CLAUSE was");
        Sentences.due(Sentences.rounds(x, "light 0 at done+20 times 2;light 0 at done+20"), 3);
        undone(x, 22, 21, 20);
        Sentences.due(Sentences.rounds(x, "light 0 at run+20 times 2;light 0 at run+20"), 3);
        undone(x, 20, 21, 20);
        Sentences.due(Sentences.rounds(x, "light run at wind times 2"), 2);
        undone(x, 4, 4);
        undone(x, 50);
        Sentences.due(x.undo(), -3);
    }

    private static void stopping() {
        Sentences.says("One that can't be told (a BROKEN SUM, as turn() is REFUSED) ends it: all is as it was ahead of it");
        String[] bad = {"light 2 at 0", "light 0-1 at 0", "light 0 at 120", "light 0 at 0-1", "light 1/0 at 0", "light 0 at 1%0",
            "light 0 at 0 each 1/0", "light 1/0 at 0 each 1", "light 0 at 1/0 each 1", "light 1000*1000*1000+1 at 0", "light 0 at 119 each 1 times 2", "light 0 at 0 each 1000*1000*1000 times 20",
            "snuff 1000*1000*1000 at 0", "light 256 at 0", "light 0 at 256", "light 0 at 1000*1000*1000"};
        for (String clause : bad) {
            LampTempers x = pair();
            x.turn(0, 7, 1);
            Sentences.due(Sentences.rounds(x, "light 0 at 1;" + clause + ";light 0 at 3"), -3);
            Sentences.due(x.stopped(), 1);
            Sentences.due(x.fault(), -1);
            Sentences.due(x.count(2), 1);
            Sentences.due(x.count(7), 0);
            Sentences.due(x.night(0, 0), 100);
            Sentences.due(x.undo(), 7);
        }
        LampTempers x = pair();
        Sentences.due(Sentences.rounds(x, "light 1 at 119;snuff 0 at 0"), 2);

        Sentences.says("-3 one can't be; -5 one has no room");
        x = pair();
        Sentences.due(Sentences.rounds(x, "light 0 at 0 times 20"), 20);
        Sentences.due(Sentences.rounds(x, "light 0 at 0 times 5"), -5);
        Sentences.due(x.stopped(), 0);
        Sentences.due(x.count(2), 20);
        Sentences.due(Sentences.rounds(x, "light 0 at 0;light 0 at 1 times 4"), -5);
        Sentences.due(x.stopped(), 1);
        Sentences.due(x.count(2), 20);
        Sentences.due(Sentences.rounds(x, "light 0 at 0 times 4"), 4);
        Sentences.due(Sentences.rounds(x, "light 0 at 0"), -5);
        Sentences.due(Sentences.rounds(x, "light 2 at 0"), -3);
        Sentences.due(Sentences.rounds(x, "light 0 at 0 if 1=2"), 0);

        Sentences.says("rounds: -6 (as for law()); the TAPE is empty then");
        x = pair();
        Sentences.due(x.rounds(), -6);
        Sentences.due(x.fault(), 0);
        Sentences.due(Sentences.rounds(x, "    "), -6);
        Sentences.due(x.fault(), 4);
        Sentences.due(Sentences.rounds(x, "light 0 at 0;light"), -6);
        Sentences.due(x.fault(), 18);
        Sentences.due(x.count(2), 0);
        Sentences.due(x.count(7), 0);
        Sentences.due(x.rounds(), -6);
        Sentences.due(Sentences.rounds(x, "light 0 at 0"), 1);
        Sentences.due(x.count(7), 0);

        Sentences.says("Which CLAUSE of the latest rounds() could not be. NONE");
        x = pair();
        Sentences.due(x.stopped(), -1);
        Sentences.rounds(x, Sentences.many("snuff 0 at 0", ";", 11) + ";snuff 9 at 0");
        Sentences.due(x.stopped(), 11);
        Sentences.law(x, "shuns");
        Sentences.due(x.stopped(), 11);
        Sentences.rounds(x, "light 0 at 0 if 1=2;light 9 at 0 if 1=2;light 9 at 0");
        Sentences.due(x.stopped(), 2);
        Sentences.rounds(x, "light 9 at 0");
        Sentences.due(x.stopped(), 0);
        Sentences.rounds(x, "light");
        Sentences.due(x.stopped(), -1);
        Sentences.rounds(x, "light 9 at 0");
        Sentences.rounds(x, "light 0 at 0");
        Sentences.due(x.stopped(), -1);
    }

    public static void main(String[] args) {
        laws();
        force();
        holding();
        words();
        telling();
        rounds();
        roundWords();
        stopping();
        Sentences.finish();
    }
}
