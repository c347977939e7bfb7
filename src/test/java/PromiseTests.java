/** For each promise ordinary answers, the edges that the document names, and wrong inputs. */
public final class PromiseTests {
    private static final int MIN = Integer.MIN_VALUE;
    private static final int MAX = Integer.MAX_VALUE;
    private static int wrong = 0;
    private static int promise = 0;
    private static int row = 0;

    private static void due(int got, int want) {
        row++;
        if (got != want) {
            wrong++;
            System.out.println("promise " + promise + ", row " + row + ": answered " + got + ", due is " + want);
        }
    }

    private static void begin(int number) {
        promise = number;
        row = 0;
    }

    private static void write(LampTempers x, String text) {
        Sentences.write(x, text);
    }

    private static int law(LampTempers x, String text) {
        return Sentences.law(x, text);
    }

    private static void rule(LampTempers x, String text) {
        due(x.force(law(x, text)) >= -1 ? 0 : 1, 0);
        due(x.fault(), -1);
    }

    private static int rounds(LampTempers x, String text) {
        return Sentences.rounds(x, text);
    }

    private static int fault(String text) {
        return Sentences.fault(text);
    }

    private static int roundsFault(String text) {
        return Sentences.roundsFault(text);
    }

    private static LampTempers street(int ways) {
        return Sentences.street(ways);
    }

    private static void p1() {
        begin(1);
        LampTempers x = new LampTempers();
        for (int what = 0; what <= 12; what++) due(x.count(what), 0);
        due(x.count(13), -1);
        due(x.count(14), 0);
        due(x.count(15), 3);
        due(x.count(16), 0);
        due(x.status(), 0);
        due(x.fault(), -1);
        due(x.stopped(), -1);
        due(x.ash(), 0);
        due(x.drawn(0), -1);
        due(x.bright(0), 0);
        due(x.back(0), -2);
    }

    private static void p2() {
        begin(2);
        LampTempers x = new LampTempers();
        due(x.way(0, 11), 0);
        due(x.way(11, 10), 1);
        due(x.way(11, 0), -3);
        due(x.way(0, 11), -3);
        due(x.way(4, 4), -1);
        due(x.way(-1, 4), -1);
        due(x.way(4, 12), -1);
        due(x.way(MIN, MAX), -1);
        int made = 2;
        for (int a = 0; a < 12 && made < 20; a++) {
            for (int b = a + 1; b < 10 && made < 20; b++) due(x.way(a, b), made++);
        }
        due(x.way(8, 9), -5);
        due(x.way(0, 1), -3);
        due(x.way(5, 5), -1);
        due(x.count(0), 20);
    }

    private static void p3() {
        begin(3);
        LampTempers x = street(2);
        due(x.shutter(1, 1), 0);
        due(x.shutter(1, 1), 1);
        due(x.far(0, 2, 1), -1);
        due(x.far(0, 2, 0), 2);
        due(x.shutter(1, 0), 1);
        due(x.far(0, 2, 1), 2);
        due(x.shutter(2, 1), -2);
        due(x.shutter(-1, 1), -2);
        due(x.shutter(0, 2), -1);
        due(x.shutter(7, -1), -1);
        due(x.shutter(MAX, 0), -2);
    }

    private static void p4() {
        begin(4);
        LampTempers x = new LampTempers();
        x.way(9, 3);
        due(x.of(0, 0), 3);
        due(x.of(0, 1), 9);
        due(x.of(0, 2), 0);
        x.shutter(0, 1);
        due(x.of(0, 2), 1);
        due(x.of(0, 3), -1);
        due(x.of(0, -1), -1);
        due(x.of(1, 0), -1);
        due(x.of(-1, 0), -1);
        due(x.of(MIN, MAX), -1);
    }

    private static void p5() {
        begin(5);
        LampTempers x = street(11);
        due(x.far(0, 11, 0), 11);
        due(x.far(11, 0, 1), 11);
        due(x.far(5, 5, 1), 0);
        x.way(0, 11);
        x.shutter(11, 1);
        due(x.far(0, 11, 0), 1);
        due(x.far(0, 11, 1), 11);
        due(x.far(1, 10, 0), 3);
        x.shutter(5, 1);
        due(x.far(0, 11, 1), -1);
        due(x.far(0, 5, 1), 5);
        due(x.far(0, 12, 0), -1);
        due(x.far(-1, 0, 0), -1);
        due(x.far(0, 1, 2), -1);
        due(x.far(0, 1, -1), -1);
        due(new LampTempers().far(0, 1, 0), -1);
    }

    private static void p6() {
        begin(6);
        LampTempers x = new LampTempers();
        due(x.lamp(0, 0, 1), 0);
        due(x.lamp(11, 5, 240), 1);
        due(x.lamp(11, 5, 241), -1);
        due(x.lamp(11, 5, 0), -1);
        due(x.lamp(11, 6, 1), -1);
        due(x.lamp(11, -1, 1), -1);
        due(x.lamp(-1, 0, 1), -1);
        due(x.lamp(12, 0, 1), -1);
        for (int i = 2; i < 10; i++) due(x.lamp(0, 0, 5), i);
        due(x.lamp(0, 0, 5), -5);
        due(x.lamp(0, 0, 0), -1);
        due(x.count(1), 10);
    }

    private static void p7() {
        begin(7);
        LampTempers x = new LampTempers();
        due(x.put(0, 0, 0), -2);
        x.lamp(3, 4, 5);
        due(x.put(0, 0, 11), 3);
        due(x.put(0, 1, 0), 4);
        due(x.put(0, 2, 240), 5);
        due(x.put(0, 0, 12), -1);
        due(x.put(0, 1, 6), -1);
        due(x.put(0, 2, 0), -1);
        due(x.put(0, 2, 241), -1);
        due(x.put(0, 3, 1), -1);
        due(x.put(0, -1, 1), -1);
        due(x.put(1, 0, 12), -1);
        due(x.put(1, 0, 1), -2);
        due(x.put(-1, 0, 1), -2);
        due(x.fact(0, 0), 11);
        due(x.fact(0, 1), 0);
        due(x.fact(0, 2), 240);
    }

    private static void p8() {
        begin(8);
        LampTempers x = new LampTempers();
        due(x.fact(0, 0), -1);
        x.lamp(3, 4, 5);
        due(x.fact(0, 0), 3);
        due(x.fact(0, 1), 4);
        due(x.fact(0, 2), 5);
        due(x.fact(0, 3), -1);
        due(x.fact(0, -1), -1);
        due(x.fact(1, 0), -1);
        due(x.fact(-1, 0), -1);
    }

    private static void p9() {
        begin(9);
        LampTempers x = new LampTempers();
        due(x.turn(0, 0, 1), -2);
        x.lamp(0, 0, 9);
        due(x.turn(0, 0, 1), 1);
        due(x.turn(0, 119, 0), 2);
        due(x.turn(0, 120, 1), -1);
        due(x.turn(0, -1, 1), -1);
        due(x.turn(0, 0, 2), -1);
        due(x.turn(0, 0, -1), -1);
        due(x.turn(-1, 0, 0), -2);
        due(x.turn(1, 0, 0), -2);
        due(x.turn(1, 120, 0), -1);
        for (int i = 3; i <= 24; i++) due(x.turn(0, i, i % 2), i);
        due(x.turn(0, 5, 1), -5);
        due(x.turn(1, 5, 1), -2);
        due(x.count(2), 24);
        // As told: two of one minute, one behind the other; on from now, whatever was.
        LampTempers y = new LampTempers();
        y.lamp(0, 0, 9);
        y.turn(0, 4, 1);
        y.turn(0, 4, 0);
        due(y.night(0, 0), 0);
        y.turn(0, 4, 1);
        due(y.night(0, 0), 9);
        due(y.burns(0, 3, 0), 0);
        due(y.burns(0, 4, 0), 1);
        y.turn(0, 2, 0);
        due(y.night(0, 0), 9);
        y.turn(0, 7, 0);
        due(y.night(0, 0), 3);
        y.turn(0, 100, 1);
        due(y.night(0, 0), 9);
        due(y.burns(0, 105, 0), 1);
        due(y.burns(0, 106, 0), 0);
    }

    private static void p10() {
        begin(10);
        LampTempers x = new LampTempers();
        due(x.undo(), -3);
        due(x.status(), -3);
        x.lamp(0, 0, 9);
        x.turn(0, 7, 1);
        x.turn(0, 3, 0);
        due(rounds(x, "light 0 at 50"), 1);
        x.feed(0x00590100, 0, 0, 0, 0);
        x.end(3);
        due(x.row(), 1);
        due(x.undo(), 0x59);
        due(x.undo(), 50);
        due(x.undo(), 3);
        due(x.status(), 0);
        due(x.undo(), 7);
        due(x.undo(), -3);
        due(x.count(2), 0);
    }

    private static void p11() {
        begin(11);
        LampTempers x = new LampTempers();
        due(x.lantern(6, 0, 0), -1);
        due(x.lantern(-1, 0, 0), -1);
        due(x.lantern(0, 120, 0), -1);
        due(x.lantern(0, -1, 0), -1);
        due(x.lantern(0, 0, 12), -1);
        due(x.lantern(0, 0, -1), -1);
        due(x.lantern(5, 119, 11), 0);
        due(x.lantern(0, 0, 0), 1);
        due(x.lantern(0, 0, 0), -5);
        due(x.lantern(0, 0, 12), -1);
        due(x.bright(118), 1);
        due(x.bright(119), 1 | 1 << 11);
    }

    private static void p12() {
        begin(12);
        LampTempers x = street(3);
        due(x.go(0, 0), -2);
        x.lantern(0, 10, 1);
        due(x.go(0, 12), -1);
        due(x.go(0, -1), -1);
        due(x.go(1, 12), -1);
        due(x.go(1, 2), -2);
        due(x.go(-1, 2), -2);
        due(x.go(0, 3), -3);
        due(x.go(0, 2), 1);
        due(x.go(0, 2), 2);
        x.shutter(2, 1);
        due(x.go(0, 3), 3);
        due(x.bright(9), 0);
        due(x.bright(10), 7);
        due(x.bright(11), 6);
        due(x.bright(12), 6);
        due(x.bright(13), 8);
        due(x.bright(119), 8);
        for (int i = 4; i <= 15; i++) due(x.go(0, i % 2 == 0 ? 2 : 3), i);
        due(x.go(0, 2), -5);
        due(x.go(0, 0), -3);
    }

    private static void p13() {
        begin(13);
        LampTempers x = street(1);
        due(x.doused(), 0);
        x.lantern(0, 0, 0);
        x.lantern(0, 0, 0);
        x.go(0, 1);
        due(x.doused(), 2);
        due(x.count(3), 0);
        due(x.bright(5), 0);
        due(x.lantern(1, 0, 0), 0);
        due(x.go(0, 0), 1);
    }

    private static void p14() {
        begin(14);
        LampTempers x = new LampTempers();
        due(x.errand(0, 0, 119), 0);
        due(x.errand(11, 5, 5), 1);
        due(x.errand(11, 6, 5), -1);
        due(x.errand(12, 5, 5), -1);
        due(x.errand(-1, 5, 5), -1);
        due(x.errand(0, -1, 5), -1);
        due(x.errand(0, 0, 120), -1);
        for (int i = 2; i < 6; i++) due(x.errand(1, i, i), i);
        due(x.errand(0, 0, 1), -5);
        due(x.errand(0, 1, 0), -1);
        due(x.count(4), 6);
    }

    private static void p15() {
        begin(15);
        LampTempers x = new LampTempers();
        due(x.terms(0, 9), 0);
        due(x.terms(1, 1), 3);
        due(x.terms(2, 9), 0);
        due(x.terms(0, 0), 9);
        due(x.terms(1, 9), 1);
        due(x.terms(2, 0), 9);
        due(x.terms(1, 0), -1);
        due(x.terms(0, 10), -1);
        due(x.terms(0, -1), -1);
        due(x.terms(1, 10), -1);
        due(x.terms(3, 1), -1);
        due(x.terms(-1, 1), -1);
        due(x.count(15), 9);
        // REST tells when a lamp burns again.
        LampTempers y = new LampTempers();
        y.lamp(0, 0, 240);
        y.turn(0, 10, 1);
        y.lantern(0, 0, 0);
        due(y.night(0, 1), 37);
        y.terms(1, 1);
        due(y.night(0, 1), 110);
        y.terms(1, 9);
        due(y.night(0, 1), 13);
    }

    private static void p16() {
        begin(16);
        LampTempers x = new LampTempers();
        for (int i = 20; i <= 400; i += 20) due(x.feed(-1, MIN, MAX, 0, 1), i);
        due(x.feed(0, 0, 0, 0, 0), -1);
        due(x.count(7), 400);
        due(x.end(381), 381);
        due(x.feed(0, 0, 0, 0, 0), -1);
        due(x.end(380), 380);
        due(x.feed(0, 0, 0, 0, 0), 400);
        due(x.status(), 0);
        due(x.count(8), 0);
        // The highest byte first.
        LampTempers y = new LampTempers();
        y.lamp(0, 0, 9);
        y.lamp(0, 0, 9);
        due(y.feed(0x01770100, 0, 0, 0, 0), 20);
        y.end(3);
        due(y.row(), 1);
        due(y.undo(), 0x77);
    }

    private static void p17() {
        begin(17);
        LampTempers x = new LampTempers();
        due(x.end(0), 0);
        due(x.end(1), -1);
        due(x.end(-1), -1);
        x.feed(0, 0, 0, 0, 0);
        due(x.end(21), -1);
        due(x.end(20), 20);
        due(x.end(7), 7);
        due(x.end(8), -1);
        due(x.count(7), 7);
        due(x.end(MIN), -1);
    }

    private static void p18() {
        begin(18);
        LampTempers x = new LampTempers();
        due(x.row(), -6);
        x.lamp(0, 0, 9);
        x.lamp(0, 0, 9);
        x.feed(0x00050101, 0x7700027f, 0x01000000, 0x05000000, 0);
        x.end(15);
        // (0 5 1), (1 119 0), (2 127 1), (0 0 0), (5 0 0)
        due(x.row(), 3);
        due(x.ash(), 2);
        due(x.count(7), 0);
        due(x.count(2), 3);
        due(x.undo(), 0);
        due(x.undo(), 119);
        due(x.undo(), 5);
        due(x.row(), -6);
        due(x.count(12), 2);
        // No room is ash, too.
        LampTempers y = new LampTempers();
        y.lamp(0, 0, 9);
        for (int i = 0; i < 23; i++) y.turn(0, i, 1);
        y.feed(0, 0, 0, 0, 0);
        due(y.row(), 1);
        due(y.ash(), 6);
        due(y.status(), 0);
    }

    private static void p19() {
        begin(19);
        LampTempers x = new LampTempers();
        due(x.ash(), 0);
        x.feed(0, 0, 0, 0, 0);
        due(x.row(), 0);
        due(x.ash(), 7);
        due(x.row(), -6);
        due(x.ash(), 7);
        x.lamp(0, 0, 9);
        x.feed(0, 0, 0, 0, 0);
        x.end(6);
        due(x.row(), 2);
        due(x.ash(), 0);
        x.feed(0, 0, 0, 0, 0);
        x.end(2);
        due(x.row(), 0);
        due(x.ash(), 1);
    }

    private static void p20() {
        begin(20);
        LampTempers x = new LampTempers();
        due(x.law(), -6);
        due(x.fault(), 0);
        due(law(x, "     "), -6);
        due(x.fault(), 5);
        for (int i = 0; i < 6; i++) due(law(x, "drinks " + i), i);
        due(x.fault(), -1);
        due(law(x, "oops"), -5);
        due(x.fault(), -1);
        due(x.count(7), 0);
        due(x.count(5), 6);
        x.lamp(0, 0, 9);
        for (int i = 0; i < 6; i++) {
            x.force(i);
            due(x.asks(0, 0, 0, 2), i);
        }
        lawFaults();
        lawMeaning();
    }

    private static String many(String one, String between, int n) {
        return Sentences.many(one, between, n);
    }

    private static void lawFaults() {
        due(fault("shuns"), -1);
        due(fault("shuns if"), 8);
        due(fault("shuns kind"), 6);
        due(fault("Shuns"), 0);
        due(fault("shunsif"), 0);
        due(fault("shuns if kind=other"), -1);
        due(fault("shuns if kind"), 13);
        due(fault("shuns if (kind=1)=1"), 17);
        due(fault("shuns if kind=1=1"), 15);
        due(fault("shuns if not not(not 1=1)"), -1);
        due(fault("shuns if [kind=1]"), 14);
        due(fault("shuns if (kind)=1"), 14);
        due(fault("shuns if 1<2 and"), 16);
        due(fault("shuns if (1<and 1=1"), 12);
        due(fault("shuns if (1=1;shuns"), 13);
        due(fault("shuns if 1< or 1=1"), 12);
        due(fault("shuns if 1=1 and or 1=1"), 17);
        due(fault("reaches [1;shuns"), 10);
        due(fault("reaches [;shuns"), 9);
        due(fault("reaches 1+;shuns"), 10);
        due(fault("reaches 1*if 1=1"), 10);
        due(fault("shuns if 1<2 nor 1=1"), 13);
        due(fault("shuns;"), 6);
        due(fault("shuns;;shuns"), 6);
        due(fault("reaches 1000"), -1);
        due(fault("reaches 1001"), 8);
        due(fault("reaches 00001000"), -1);
        due(fault("reaches 99999999999999999999"), 8);
        due(fault("reaches 1 2"), 10);
        due(fault("reaches 1x"), 9);
        due(fault("reaches -1"), 8);
        due(fault("reaches lamps"), 8);
        due(fault("reaches [1+2"), 12);
        due(fault("reaches 1\t"), 9);
        due(fault("light 0 at 0"), 0);
        due(fault("drinks 1 if later=0 or near<0 and mood>wind"), -1);
        due(fault(many("shuns", ";", 12)), -1);
        due(fault(many("shuns", ";", 13)), 72);
        due(fault(many("shuns", ";", 12) + ";?"), 72);
        due(fault(many("shuns", ";", 12) + " ; "), 74);
        due(fault("reaches " + many("1", "+", 50)), -1);
        due(fault("reaches " + many("1", "+", 51)), 108);
        due(fault("reaches " + many("1", "+", 25) + ";drinks " + many("1", "+", 26)), 8 + 49 + 8 + 50);
        due(fault("reaches [[[[[[[[1]]]]]]]]"), -1);
        due(fault("reaches [[[[[[[[[1]]]]]]]]]"), 16);
        due(fault("shuns if ((((([[[1]]]=1)))))"), -1);
        due(fault("shuns if ((((([[[[1]]]]=1)))))"), 17);
        due(fault("shuns if (((((((((1=1)))))))))"), 17);
    }

    private static int told(String sum) {
        LampTempers x = new LampTempers();
        x.lamp(0, 4, 9);
        x.terms(0, 7);
        x.terms(2, 5);
        rule(x, "drinks " + sum);
        return x.asks(0, 0, 33, 2);
    }

    private static int isSo(String test) {
        return told("9 if " + test) == 9 ? 1 : 0;
    }

    private static void lawMeaning() {
        due(told("1+2*3"), 7);
        due(told("[1+2]*3"), 9);
        due(told("9-3-2"), 4);
        due(told("8/2/2"), 2);
        due(told("8%5*2"), 6);
        due(told("0-7/2+9"), 6);
        due(told("[0-7]/2+9"), 6);
        due(told("[0-7]%4+9"), 6);
        due(told("7%[0-4]"), 3);
        due(told("10"), 9);
        due(told("0-5"), 0);
        due(told("1000*1000*1000/1000/1000/200"), 5);
        due(told("[1000*1000*1000+1]/1000/1000"), 1);
        due(told("[0-1000*1000*1000]/1000/1000/1000+5"), 4);
        due(told("[0-1000*1000*1000-1]/1000/1000/1000+5"), 1);
        due(told("5/0"), 1);
        due(told("5%0"), 1);
        due(told("lamp+3"), 3);
        due(told("kind"), 4);
        due(told("other+3"), 2);
        due(told("near+4"), 3);
        due(told("later+5"), 4);
        due(told("minute/11"), 3);
        due(told("wind"), 7);
        due(told("mood"), 5);
        due(told("3;drinks 4;drinks 5 if 1=2;drinks 6/0;drinks 7 if 1/0=1"), 4);
        due(told("3;reaches 8"), 3);
        due(isSo("1<2"), 1);
        due(isSo("2<2"), 0);
        due(isSo("2>2"), 0);
        due(isSo("3>2"), 1);
        due(isSo("2=2"), 1);
        due(isSo("not 2=2"), 0);
        due(isSo("not not 2=2"), 1);
        due(isSo("1=2 and 1=2 or 1=1"), 1);
        due(isSo("1=1 or 1=2 and 1=2"), 1);
        due(isSo("(1=1 or 1=2) and 1=2"), 0);
        due(isSo("not (1=1 and 1=2)"), 1);
        due(isSo("1=1 or 1/0=1"), 1);
        due(isSo("1/0=1 or 1=1"), 0);
        due(isSo("1=2 and 1/0=1 or 1=1"), 1);
        due(isSo("1=1 and 1/0=1 or 1=1"), 0);
        due(isSo("not 1/0=1"), 0);
        due(isSo("not (1=2 and 1/0=1)"), 1);
        due(isSo("not (1=1 and 1/0=1)"), 0);
        due(isSo("1=1 or 1=1 or 1/0=1"), 1);
        due(isSo("1=2 or 1=2 or 1=1"), 1);
        due(isSo("1=1 and 1=1 and 1=2"), 0);
    }

    private static void p21() {
        begin(21);
        LampTempers x = new LampTempers();
        due(x.rounds(), -6);
        due(x.fault(), 0);
        due(rounds(x, "  "), -6);
        due(x.fault(), 2);
        x.lamp(0, 0, 9);
        x.lamp(0, 1, 9);
        x.terms(0, 4);
        // run 0: minute 5, run 1: 12, run 2: 19.
        due(rounds(x, "light 1 at 5 each 7 times 3"), 3);
        due(x.undo(), 19);
        due(x.undo(), 12);
        due(x.undo(), 5);
        due(rounds(x, "light 0 at last+1;snuff 1 at last+10 each 2 times 2;light 0 at done*100/3 - 10"), 4);
        due(x.undo(), 90);
        // last is 10 the first time, then 20 and 2 more.
        due(x.undo(), 22);
        due(x.undo(), 10);
        due(x.undo(), 0);
        due(rounds(x, "light run at wind+run times 2 if lamps=2 and switches=run and done=run"), 2);
        due(x.undo(), 5);
        due(x.undo(), 4);
        // A time that is not run does not count as run.
        due(rounds(x, "light 0 at 3; light 1 at 10 each 5 times 4 if not run=1 or switches=9"), 2);
        due(x.undo(), 10);
        due(x.undo(), 3);
        due(rounds(x, "light 0 at 0 if 1/0=1"), 0);
        due(x.count(2), 0);
        due(rounds(x, "light 0 at 1; light 2 at 1"), -3);
        due(x.stopped(), 1);
        due(x.count(2), 0);
        due(rounds(x, "light 0 at 119 each 1 times 2"), -3);
        due(rounds(x, "light 0 at 1/0"), -3);
        due(rounds(x, "light 0 at 1 each 1/0"), -3);
        due(rounds(x, "light 0-1 at 1"), -3);
        due(rounds(x, "light 0 at 0-1"), -3);
        due(rounds(x, "light 0 at 1 each 1000*1000*1000 times 3"), -3);
        due(x.count(2), 0);
        due(rounds(x, "light 0 at 0 each 1 times 20"), 20);
        due(rounds(x, "light 0 at 1 times 5"), -5);
        due(x.count(2), 20);
        due(rounds(x, "light 0 at 1 times 4"), 4);
        due(rounds(x, "light 0 at 1"), -5);
        due(x.stopped(), 0);
        due(rounds(x, "light 2 at 1"), -3);
        due(x.count(7), 0);
        due(x.count(10), 8);
        due(x.count(11), 2);
        due(x.count(12), 2);
        LampTempers y = new LampTempers();
        y.lamp(0, 0, 240);
        due(rounds(y, "snuff 0 at 9;light 0 at 5"), 2);
        due(y.night(0, 0), 4);
        roundsFaults();
    }

    private static void roundsFaults() {
        due(roundsFault("light 0 at 0"), -1);
        due(roundsFault("shuns"), 0);
        due(roundsFault("light at 0"), 6);
        due(roundsFault("light 0"), 7);
        due(roundsFault("light 0 each 1"), 8);
        due(roundsFault("light 0 at 1 times 0"), 19);
        due(roundsFault("light 0 at 1 times 1"), -1);
        due(roundsFault("light 0 at 1 times 20"), -1);
        due(roundsFault("light 0 at 1 times 21"), 19);
        due(roundsFault("light 0 at 1 times 0020"), -1);
        due(roundsFault("light 0 at 1 times run"), 19);
        due(roundsFault("light 0 at 1 times 2 each 1"), 21);
        due(roundsFault("light 0 at 1 if 1=1 times 2"), 20);
        due(roundsFault("light kind at 1"), 6);
        due(roundsFault("light mood at 1"), 6);
        due(roundsFault("light lamps+switches+last+done+run+wind at 1"), -1);
        due(roundsFault(many("light 0 at 0", ";", 12)), -1);
        due(roundsFault(many("light 0 at 0", ";", 13)), 156);
        // Forty-eight parts and two more; times is not one.
        String fifty = many("light 0 at 0 times 9", ";", 11) + ";light 0 at " + many("1", "+", 27);
        due(roundsFault(fifty), -1);
        due(roundsFault(fifty + "+1"), fifty.length() + 1);
    }

    private static void p22() {
        begin(22);
        LampTempers x = new LampTempers();
        due(x.fault(), -1);
        law(x, "shuns ?");
        due(x.fault(), 6);
        rounds(x, "light 0 at 0");
        due(x.fault(), -1);
        due(x.status(), -3);
        rounds(x, "light 0 on 0");
        due(x.fault(), 8);
        law(x, "shuns");
        due(x.fault(), -1);
        law(x, "");
        due(x.fault(), 0);
        for (int i = 0; i < 5; i++) law(x, "shuns");
        law(x, "shuns or");
        due(x.fault(), -1);
        due(x.status(), -5);
        rounds(x, "x");
        due(x.fault(), 0);
        law(x, "shuns");
        due(x.status(), -5);
        due(x.fault(), 0);
    }

    private static void p23() {
        begin(23);
        LampTempers x = new LampTempers();
        due(x.stopped(), -1);
        rounds(x, "light 0 at 0 if 1=2; light 0 at 0");
        due(x.stopped(), 1);
        law(x, "shuns");
        due(x.stopped(), 1);
        rounds(x, "light");
        due(x.stopped(), -1);
        rounds(x, "light 0 at 0");
        due(x.stopped(), 0);
        x.lamp(0, 0, 1);
        rounds(x, "light 0 at 0");
        due(x.stopped(), -1);
    }

    private static void p24() {
        begin(24);
        LampTempers x = new LampTempers();
        due(x.force(0), -2);
        due(x.force(-1), -1);
        due(x.status(), 0);
        due(x.force(-2), -2);
        due(x.force(MAX), -2);
        law(x, "drinks 3");
        law(x, "drinks 4");
        x.lamp(0, 0, 9);
        due(x.asks(0, 0, 0, 2), 1);
        due(x.force(1), -1);
        due(x.asks(0, 0, 0, 2), 4);
        due(x.force(0), 1);
        due(x.asks(0, 0, 0, 2), 3);
        due(x.force(2), -2);
        due(x.count(13), 0);
        due(x.force(-1), 0);
        due(x.asks(0, 0, 0, 2), 1);
    }

    private static void p25() {
        begin(25);
        LampTempers x = street(3);
        x.lamp(0, 2, 9);
        x.lamp(1, 2, 9);
        x.lamp(2, 2, 9);
        x.lamp(0, 3, 9);
        x.lamp(0, 2, 9);
        // Without a law: of one kind, sight 0 or 1.
        due(x.asks(0, 1, 0, 0), 1);
        due(x.asks(0, 2, 0, 0), 0);
        due(x.asks(0, 3, 0, 0), 0);
        due(x.asks(0, 4, 0, 0), 1);
        x.shutter(0, 1);
        due(x.asks(0, 1, 0, 0), 0);
        due(x.asks(0, 4, 0, 0), 1);
        x.shutter(0, 0);
        due(x.asks(0, 1, 0, 1), 1);
        due(x.asks(0, 77, 0, 2), 1);
        due(x.asks(0, -5, 119, 1), 1);
        due(x.asks(0, 0, 0, 0), -1);
        due(x.asks(0, 5, 0, 0), -1);
        due(x.asks(0, -1, 0, 0), -1);
        due(x.asks(5, 0, 0, 1), -1);
        due(x.asks(-1, 0, 0, 1), -1);
        due(x.asks(0, 1, 120, 0), -1);
        due(x.asks(0, 1, -1, 0), -1);
        due(x.asks(0, 1, 0, 3), -1);
        due(x.asks(0, 1, 0, -1), -1);
        rule(x, "shuns if later=1 and near=2;shuns if lamp=3 and kind=3 and other=2;shuns if minute=7;reaches kind*minute;reaches 5 if lamp=1");
        due(x.asks(2, 0, 0, 0), 1);
        due(x.asks(0, 2, 0, 0), 0);
        due(x.asks(3, 0, 0, 0), 1);
        due(x.asks(0, 3, 0, 0), 0);
        due(x.asks(0, 3, 7, 0), 1);
        due(x.asks(0, 0, 2, 1), 4);
        due(x.asks(0, 0, 0, 1), 0);
        due(x.asks(0, 0, 9, 1), 9);
        due(x.asks(1, 0, 9, 1), 5);
        // A law without "shuns": nobody does; no sight is -1.
        rule(x, "drinks 2");
        due(x.asks(0, 4, 0, 0), 0);
        rule(x, "shuns if near<0");
        due(x.asks(0, 2, 0, 0), 0);
        x.shutter(0, 1);
        due(x.asks(0, 2, 0, 0), 1);
    }

    private static void p26() {
        begin(26);
        LampTempers x = street(1);
        x.lamp(0, 0, 5);
        x.turn(0, 10, 1);
        due(x.burns(0, 9, 0), 0);
        due(x.burns(0, 9, 1), 5);
        due(x.burns(0, 10, 0), 1);
        due(x.burns(0, 10, 1), 4);
        due(x.burns(0, 14, 0), 1);
        due(x.burns(0, 14, 1), 0);
        due(x.burns(0, 15, 0), 0);
        due(x.burns(0, 119, 2), 0);
        due(x.burns(0, 119, 3), 0);
        due(x.burns(0, 120, 0), -1);
        due(x.burns(0, -1, 0), -1);
        due(x.burns(1, 0, 0), -1);
        due(x.burns(-1, 0, 0), -1);
        due(x.burns(0, 0, 4), -1);
        due(x.burns(0, 0, -1), -1);
        // Both shun each other and burn since the same minute: the higher number goes out.
        x.put(0, 2, 100);
        x.lamp(1, 0, 100);
        x.turn(1, 10, 1);
        due(x.burns(0, 10, 0), 1);
        due(x.burns(0, 10, 3), 0);
        due(x.burns(1, 10, 3), 1);
        due(x.burns(1, 10, 2), 1);
        due(x.burns(1, 12, 2), 1);
        due(x.burns(1, 13, 3), 1);
        due(x.burns(1, 13, 2), 2);
        due(x.burns(1, 13, 1), 100);
        // On again while lamp 1 is out; then in the minute in which that burns again, too.
        x.turn(0, 14, 1);
        due(x.burns(0, 14, 3), 0);
        x.turn(0, 16, 1);
        due(x.burns(0, 16, 3), 0);
        due(x.burns(1, 16, 3), 1);
        x.turn(1, 17, 1);
        due(x.burns(1, 17, 3), 1);
        x.turn(0, 18, 0);
        x.turn(0, 20, 1);
        // Lamp 1 went out at 17, burns at 20 again, as lamp 0 does.
        due(x.burns(1, 20, 3), 1);
        x.turn(0, 20, 0);
        due(x.burns(1, 20, 0), 1);
        x.turn(0, 21, 1);
        due(x.burns(0, 21, 3), 1);
        due(x.burns(1, 21, 0), 1);
        offWhileOut();
        oneSided();
        drinking();
    }

    private static void offWhileOut() {
        LampTempers x = new LampTempers();
        x.lamp(0, 0, 100);
        x.turn(0, 10, 1);
        x.lantern(0, 0, 0);
        due(x.night(0, 1), 37);
        due(x.burns(0, 13, 3), 1);
        // Off: it does not burn, and does not burn again.
        x.turn(0, 14, 0);
        due(x.night(0, 1), 2);
        // On ahead of its rest.
        x.turn(0, 15, 1);
        due(x.burns(0, 15, 3), 1);
        due(x.burns(0, 16, 3), 0);
        due(x.burns(0, 18, 3), 1);
    }

    private static void oneSided() {
        LampTempers x = new LampTempers();
        x.lamp(0, 1, 100);
        x.lamp(0, 2, 100);
        x.turn(0, 5, 1);
        x.turn(1, 5, 1);
        rule(x, "shuns if kind=1 and other=2");
        due(x.burns(0, 5, 3), 1);
        due(x.burns(1, 5, 0), 1);
        rule(x, "shuns if kind=2 and other=1");
        due(x.burns(0, 5, 0), 1);
        due(x.burns(1, 5, 3), 1);
        // All at once: a chain of three of which each shuns the next one.
        rule(x, "shuns if other=kind+1");
        x.lamp(0, 3, 100);
        x.turn(2, 5, 1);
        due(x.burns(0, 5, 3), 1);
        due(x.burns(1, 5, 3), 1);
        due(x.burns(2, 5, 3), 0);
        // later: by the minute since which it burns.
        LampTempers y = new LampTempers();
        y.lamp(0, 1, 100);
        y.lamp(0, 2, 100);
        y.turn(0, 7, 1);
        y.turn(1, 5, 1);
        rule(y, "shuns if later=1");
        due(y.burns(0, 7, 3), 1);
        due(y.burns(1, 7, 0), 1);
        rule(y, "shuns if later=0");
        due(y.burns(0, 7, 0), 1);
        due(y.burns(1, 7, 3), 1);
        // Since the same minute later is 0 for both: the higher number goes out.
        y.turn(1, 7, 1);
        due(y.burns(0, 7, 0), 1);
        due(y.burns(1, 7, 3), 1);
    }

    private static void drinking() {
        LampTempers x = new LampTempers();
        x.lamp(0, 1, 10);
        x.turn(0, 0, 1);
        rule(x, "drinks 4");
        due(x.burns(0, 1, 1), 2);
        due(x.burns(0, 2, 0), 1);
        due(x.burns(0, 2, 1), 0);
        due(x.burns(0, 3, 0), 0);
        rule(x, "drinks 0");
        due(x.burns(0, 119, 0), 1);
        due(x.burns(0, 119, 1), 10);
        rule(x, "drinks minute");
        due(x.burns(0, 3, 1), 4);
        due(x.burns(0, 4, 0), 1);
        due(x.burns(0, 5, 0), 0);
        rule(x, "drinks 99");
        due(x.burns(0, 0, 1), 1);
        x.turn(0, 50, 1);
        due(x.night(0, 0), 2);
    }

    private static void p27() {
        begin(27);
        LampTempers x = street(4);
        due(x.bright(0), 0);
        due(x.bright(-1), -1);
        due(x.bright(120), -1);
        x.lamp(2, 0, 3);
        x.turn(0, 5, 1);
        due(x.bright(4), 0);
        due(x.bright(5), 14);
        due(x.bright(7), 14);
        due(x.bright(8), 0);
        x.shutter(1, 1);
        due(x.bright(5), 12);
        x.lantern(3, 6, 4);
        due(x.bright(6), 28);
        due(x.bright(119), 24);
        rule(x, "reaches 0;reaches 2 if lamp<0 and kind=3");
        due(x.bright(5), 4);
        due(x.bright(8), 28);
        rule(x, "reaches minute-6");
        due(x.bright(5), 4);
        due(x.bright(119), 28);
        // Of the other one nothing is known to light and thirst: other, near, later are -1.
        rule(x, "reaches 1+other");
        due(x.bright(5), 4);
        rule(x, "reaches near+1;drinks near+2");
        due(x.bright(5), 4);
        due(x.bright(7), 20);
        due(x.bright(8), 16);
        rule(x, "reaches later+1;drinks 4+later");
        due(x.bright(5), 4);
        due(x.bright(6), 16);
        // A lamp that goes out is not lit.
        rule(x, "shuns if other=3");
        due(x.bright(5), 12);
        due(x.bright(6), 24);
    }

    private static void p28() {
        begin(28);
        LampTempers x = street(1);
        due(x.night(-1, 0), 0);
        due(x.night(-1, 1), 0);
        due(x.night(-1, 2), -1);
        due(x.night(0, 0), -1);
        x.lamp(0, 0, 240);
        x.lamp(1, 0, 240);
        x.lamp(0, 1, 7);
        x.turn(0, 0, 1);
        x.turn(1, 100, 1);
        x.turn(2, 3, 1);
        due(x.night(0, 0), 120);
        due(x.night(1, 0), 0);
        due(x.night(1, 1), 7);
        due(x.night(1, 2), 100);
        due(x.night(2, 0), 7);
        due(x.night(2, 2), -1);
        due(x.night(-1, 0), 127);
        due(x.night(-1, 1), 7);
        due(x.night(-1, 2), 100);
        due(x.night(3, 0), -1);
        due(x.night(-2, 0), -1);
        due(x.night(0, 3), -1);
        due(x.night(-1, -1), -1);
    }

    private static void p29() {
        begin(29);
        LampTempers x = street(2);
        due(x.judge(0), -1);
        due(x.judge(1), -1);
        due(x.judge(2), 0);
        due(x.judge(3), -1);
        due(x.judge(-1), -1);
        x.lamp(0, 0, 10);
        x.turn(0, 0, 1);
        x.errand(0, 0, 10);
        x.errand(1, 0, 9);
        due(x.judge(0), 0);
        due(x.judge(1), 10);
        due(x.judge(2), 1);
        x.errand(2, 10, 12);
        due(x.judge(0), 0);
        due(x.judge(2), 2);
        x.errand(2, 9, 9);
        due(x.judge(0), 3);
        due(x.judge(1), 9);
        due(x.judge(2), 3);
        x.put(0, 2, 11);
        due(x.judge(0), 3);
        due(x.judge(2), 2);
    }

    private static void p30() {
        begin(30);
        LampTempers x = street(5);
        due(x.round(3, -1), 0);
        due(x.round(3, 0), -1);
        due(x.round(12, -1), -1);
        due(x.round(-1, -1), -1);
        x.lamp(5, 0, 1);
        x.lamp(0, 0, 1);
        x.lamp(2, 0, 1);
        // From 2: 2, then 0, 5 or 5, 0: 2 + 5 steps or 3 + 5.
        due(x.round(2, -1), 7);
        due(x.round(2, 0), 1);
        due(x.round(2, 1), 2);
        due(x.round(2, 2), 0);
        due(x.round(2, 3), -1);
        due(x.round(2, -2), -1);
        due(x.round(5, -1), 5);
        due(x.round(5, 0), 0);
        due(x.round(5, 1), 2);
        due(x.round(5, 2), 1);
        // Two at one corner that one does not come by again: the higher one ahead of lamp 2, too.
        x.lamp(0, 0, 1);
        due(x.round(2, 0), 1);
        due(x.round(2, 1), 3);
        due(x.round(2, 2), 2);
        due(x.round(2, 3), 0);
        // One that one comes by again waits, if that makes the row a lower one.
        x.put(3, 0, 2);
        due(x.round(2, 0), 1);
        due(x.round(2, 1), 2);
        due(x.round(2, 2), 3);
        due(x.round(2, 3), 0);
        x.put(3, 0, 0);
        x.shutter(0, 1);
        due(x.round(2, -1), 7);
        x.lamp(7, 0, 1);
        due(x.round(2, -1), -1);
        due(x.round(2, 0), -1);
        // The middle of a street: to both ends are as many steps; the first row has the lower lamp first.
        LampTempers y = street(4);
        y.lamp(4, 0, 1);
        y.lamp(0, 0, 1);
        due(y.round(2, -1), 6);
        due(y.round(2, 0), 0);
        due(y.round(2, 1), 1);
        ten();
    }

    private static void ten() {
        LampTempers z = street(11);
        for (int i = 0; i < 10; i++) z.lamp(i * 7 % 12, 0, 1);
        // Corners 0 7 2 9 4 11 6 1 8 3: from 5 down to 0 and up to 11.
        due(z.round(5, -1), 16);
        due(z.round(0, -1), 11);
        due(z.round(0, 0), 0);
        due(z.round(0, 1), 7);
        due(z.round(0, 9), 5);
    }

    private static void p31() {
        begin(31);
        LampTempers x = street(3);
        due(x.walk(0, 0, 0, 0, -1), 0);
        due(x.walk(0, 0, 3, 0, -1), 3);
        due(x.walk(0, 7, 3, 0, 2), 2);
        due(x.walk(0, 7, 3, 0, 3), 3);
        due(x.walk(0, 7, 3, 0, 4), -1);
        due(x.walk(0, 0, 0, 1, -1), -1);
        due(x.walk(0, 117, 3, 0, -1), -1);
        due(x.walk(0, 116, 3, 0, -1), 119);
        due(x.walk(0, 0, 4, 0, -1), -1);
        due(x.walk(12, 0, 0, 0, -1), -1);
        due(x.walk(0, 120, 0, 0, -1), -1);
        due(x.walk(0, -1, 0, 0, -1), -1);
        due(x.walk(0, 0, -1, 0, -1), -1);
        due(x.walk(0, 0, 0, 2, -1), -1);
        due(x.walk(0, 0, 0, 0, -2), -1);
        due(x.walk(0, 0, 3, 0, MAX), -1);
        // Each of the numbers makes another question of it.
        due(x.walk(1, 0, 3, 0, -1), 2);
        due(x.walk(1, 4, 3, 0, -1), 6);
        due(x.walk(1, 4, 2, 0, -1), 5);
        due(x.walk(0, 4, 2, 0, -1), 6);
        due(x.walk(0, 4, 2, 1, -1), -1);
        due(x.walk(0, 4, 2, 0, -1), 6);
        // Shutters are no hindrance to those who walk.
        x.shutter(1, 1);
        due(x.walk(0, 0, 3, 0, -1), 3);
        x.shutter(1, 0);
        // The lamp lights 1 .. 3 in minutes 2 .. 5.
        x.lamp(2, 0, 4);
        x.turn(0, 2, 1);
        due(x.walk(0, 0, 3, 0, -1), 8);
        due(x.walk(0, 0, 3, 0, 5), 0);
        due(x.walk(0, 0, 3, 0, 6), 1);
        due(x.walk(3, 0, 1, 0, -1), -1);
        due(x.walk(3, 1, 1, 1, -1), -1);
        due(x.walk(3, 2, 1, 1, -1), 4);
        due(x.walk(3, 4, 1, 1, -1), -1);
        due(x.walk(3, 2, 1, 1, 0), 3);
        due(x.walk(3, 2, 1, 1, 1), 2);
        due(x.walk(3, 2, 1, 1, 2), 1);
        // The lowest row: two ways of the same length, and waiting as early as it may be.
        LampTempers y = new LampTempers();
        y.way(0, 5);
        y.way(0, 2);
        y.way(5, 7);
        y.way(2, 7);
        due(y.walk(0, 0, 7, 0, 1), 2);
        due(y.walk(7, 0, 0, 0, 1), 2);
    }

    private static void p32() {
        begin(32);
        LampTempers x = street(3);
        x.lamp(3, 1, 240);
        x.turn(0, 0, 1);
        due(x.worst(1, 0, 0, 0, -1), 120);
        due(x.worst(1, 0, 0, 0, 0), -1);
        due(x.worst(1, 0, 0, 1, -1), 120);
        due(x.worst(1, 0, 0, 1, 0), 0);
        due(x.worst(1, 0, 0, 2, -1), 2);
        due(x.worst(1, 0, 0, 2, 0), 1);
        due(x.worst(1, 0, 0, 2, 1), 2);
        due(x.worst(1, 0, 0, 2, 2), -1);
        // By three the first row is as good as any: 1, 2, 2 ahead of 1, 2, 3.
        due(x.worst(1, 0, 0, 3, -1), 2);
        due(x.worst(1, 0, 0, 3, 2), 2);
        due(x.worst(2, 0, 0, 3, -1), 120);
        due(x.worst(2, 0, 0, 3, 0), 0);
        due(x.worst(1, 119, 3, 3, -1), 119);
        due(x.worst(1, 119, 3, 3, 0), 2);
        // Each of the numbers makes another question of it.
        due(x.worst(1, 0, 2, 0, -1), 0);
        due(x.worst(1, 7, 2, 0, -1), 7);
        due(x.worst(1, 7, 0, 0, -1), 120);
        due(x.worst(1, 7, 2, 0, -1), 7);
        due(x.worst(3, 7, 2, 0, -1), 120);
        due(x.worst(6, 0, 0, 0, -1), -1);
        due(x.worst(0, 120, 0, 0, -1), -1);
        due(x.worst(0, 0, 12, 0, -1), -1);
        due(x.worst(0, 0, 0, 4, -1), -1);
        due(x.worst(0, 0, 0, -1, -1), -1);
        due(x.worst(0, 0, 0, 1, -2), -1);
        due(x.count(3), 0);
        due(x.night(0, 0), 120);
        // Those that are there stay.
        x.lantern(1, 60, 3);
        due(x.worst(2, 0, 0, 1, -1), 60);
        x.lantern(1, 50, 3);
        due(x.worst(1, 40, 3, 0, -1), 40);
        due(new LampTempers().worst(0, 0, 0, 3, -1), 0);
    }

    private static void p33() {
        begin(33);
        LampTempers x = street(5);
        // A lamp of a kind does not shun another one by two ways: 1 and 4 light all.
        due(x.hang(63, 1, 63, 0, 0), 2);
        due(x.hang(63, 1, 63, 0, 1), 1);
        due(x.hang(63, 1, 63, 0, 2), 100);
        due(x.hang(63, 1, 63, 0, 3), 0);
        due(x.hang(63, 1, 63, 0, 6), 0);
        due(x.hang(63, 1, 63, 0, 7), 100);
        due(x.hang(63, 1, 63, 0, 8), -1);
        due(x.hang(63, 3, 63, 0, 1), 4);
        due(x.hang(63, 6, 63, 0, 3), 1);
        due(x.hang(127, 1, 63, 0, 0), -1);
        due(x.hang(127, 1, 63, 0, 1), -1);
        due(x.hang(63, 15, 63, 0, 1), -1);
        due(x.hang(63, 7, 63, 0, 1), 9);
        due(x.hang(0, 1, 63, 0, 1), -1);
        due(x.hang(63, 0, 63, 0, 1), -1);
        due(x.hang(63, 1, 0, 0, 1), -1);
        due(x.hang(4096, 1, 1, 0, 0), -1);
        due(x.hang(1, 64, 1, 0, 0), -1);
        due(x.hang(1, 1, 4096, 0, 0), -1);
        due(x.hang(-1, 1, 1, 0, 0), -1);
        due(x.hang(1, 1, 1, 120, 0), -1);
        due(x.hang(1, 1, 1, -1, 0), -1);
        due(x.hang(1, 1, 1, 0, -1), -1);
        due(x.hang(1, 1, 1, 0, 3), -1);
        // Corner 3 is too far from the sites 0 and 1.
        due(x.hang(3, 1, 8, 0, 0), -1);
        due(x.hang(3, 1, 8, 0, 1), 0);
        due(x.hang(3, 1, 8, 0, 2), -1);
        due(x.hang(9, 1, 31, 0, 0), 2);
        due(x.hang(10, 1, 31, 0, 0), 2);
        due(x.hang(12, 1, 30, 0, 0), -1);
        due(x.hang(12, 3, 30, 0, 0), 2);
        due(x.hang(12, 3, 30, 0, 1), 2);
        due(x.hang(12, 3, 30, 0, 2), 0);
        due(x.hang(12, 3, 30, 0, 3), 1);
        // Lamps that hang already are left aside.
        x.lamp(2, 0, 240);
        x.turn(0, 0, 1);
        due(x.hang(63, 1, 63, 0, 0), 2);
        // Each of the numbers makes another question of it.
        due(x.hang(1, 1, 1, 0, 1), 1);
        due(x.hang(3, 1, 1, 0, 1), 2);
        due(x.hang(3, 3, 1, 0, 1), 4);
        due(x.hang(3, 3, 4, 0, 1), 2);
        due(x.hang(2, 3, 4, 0, 1), 2);
        due(x.hang(2, 1, 4, 0, 1), 1);
        // Numbers by told sites, with a lamp or not; one side is enough; the minute counts.
        rule(x, "reaches lamp;shuns if lamp=2 and minute<9 and later=0");
        due(x.hang(63, 1, 63, 0, 0), 1);
        due(x.hang(63, 1, 63, 0, 1), 3);
        due(x.hang(63, 1, 63, 0, 6), 100);
        due(x.hang(63, 1, 63, 0, 7), 0);
        due(x.hang(14, 1, 30, 9, 0), 1);
        due(x.hang(14, 1, 62, 0, 0), 1);
        due(x.hang(28, 1, 63, 9, 0), -1);
        due(x.hang(21, 1, 63, 8, 0), -1);
        due(x.hang(21, 1, 63, 9, 1), 1);
        due(x.hang(21, 1, 31, 9, 0), 3);
        due(x.hang(21, 1, 31, 8, 0), -1);
    }

    private static void p34() {
        begin(34);
        LampTempers x = street(4);
        due(x.shutters(0), 0);
        due(x.shutters(1), 0);
        due(x.shutters(2), 1);
        due(x.shutters(3), -1);
        due(x.shutters(-1), -1);
        x.lamp(1, 0, 240);
        x.lamp(2, 0, 240);
        x.turn(0, 0, 1);
        x.turn(1, 50, 1);
        due(x.shutters(0), 1);
        due(x.shutters(1), 2);
        due(x.shutters(2), 1);
        due(x.of(1, 2), 0);
        x.put(1, 0, 1);
        due(x.shutters(0), -1);
        due(x.shutters(1), -1);
        due(x.shutters(2), 0);
        // Some two of four will do, the lowest first; what is shuttered already is no way more.
        x.put(1, 0, 3);
        rule(x, "shuns if near>0 or near=0");
        due(x.shutters(0), 1);
        due(x.shutters(1), 2);
        due(x.shutters(2), 2);
        x.way(1, 3);
        due(x.shutters(0), 2);
        due(x.shutters(1), 18);
        due(x.shutters(2), 2);
        x.shutter(4, 1);
        due(x.shutters(0), 1);
        due(x.shutters(1), 2);
        due(x.shutters(2), 2);
        three();
    }

    private static void three() {
        // Four roundabout ways of which each must go: not by 3; three: by 3.
        LampTempers y = new LampTempers();
        for (int i = 2; i <= 4; i++) {
            y.way(0, i);
            y.way(i, 1);
        }
        y.lamp(0, 0, 240);
        y.turn(0, 0, 1);
        y.lantern(1, 5, 1);
        rule(y, "shuns if near=2");
        due(y.shutters(0), 3);
        due(y.shutters(1), 1 | 4 | 16);
        due(y.shutters(2), 8);
        y.way(0, 5);
        y.way(5, 1);
        due(y.shutters(0), -1);
        due(y.shutters(2), 0);
        // To a lantern a lamp is later.
        LampTempers z = street(2);
        z.lamp(0, 0, 240);
        z.turn(0, 0, 1);
        z.lamp(0, 5, 240);
        z.lantern(1, 0, 1);
        rule(z, "shuns if other=1 and later=1 and near=1");
        due(z.shutters(1), 1);
        rule(z, "shuns if other=1 and later=0");
        due(z.shutters(0), 0);
        z.doused();
        z.turn(1, 7, 1);
        z.put(1, 0, 1);
        rule(z, "shuns if later=1 and near=1 and other=0");
        due(z.shutters(0), 1);
        rule(z, "shuns if later=0 and near=1 and other=0");
        due(z.shutters(0), 0);
        rule(z, "shuns if later=0 and near=1 and other=5");
        due(z.shutters(0), 1);
        // Each shuns the other, if it came earlier or later; the one that came later goes out.
        rule(z, "shuns if near=1 and (later=0 or lamp=1)");
        due(z.shutters(0), 1);
        // The law looks at the minute: the lantern comes too late.
        rule(y, "shuns if near=2 and minute<5");
        due(y.shutters(0), 0);
    }

    private static void p35() {
        begin(35);
        LampTempers x = street(1);
        due(x.would(-1, 0), 0);
        due(x.would(0, 0), -1);
        x.lamp(0, 0, 240);
        x.lamp(1, 0, 240);
        x.lamp(1, 1, 240);
        for (int i = 0; i < 3; i++) x.turn(i, i, 1);
        // By kind 1 it burns since earlier than lamp 2, which goes out then.
        due(x.would(1, 0), 1);
        due(x.would(1, 1), 119);
        due(x.would(0, 0), 0);
        due(x.would(0, 1), 120);
        due(x.would(2, 0), 1);
        due(x.would(2, 1), 118);
        due(x.would(-1, 0), 2);
        due(x.would(-1, 1), 2);
        due(x.would(-1, 2), -1);
        due(x.would(1, 2), -1);
        due(x.would(1, -1), -1);
        due(x.would(3, 0), -1);
        due(x.would(-2, 0), -1);
        due(x.fact(1, 1), 0);
        due(x.night(1, 0), 0);
        rule(x, "drinks 9-kind");
        // Kind 5 drinks 4 of 240: 60 minutes.
        due(x.would(0, 0), 5);
        due(x.would(0, 1), 60);
        due(x.would(-1, 1), 7);
    }

    private static void p36() {
        begin(36);
        LampTempers x = new LampTempers();
        due(x.soot(0, 0, 0), -2);
        due(x.soot(0, 120, 0), -1);
        x.lamp(0, 0, 9);
        due(x.soot(0, 0, 0), 1);
        due(x.soot(0, 119, 1), 2);
        due(x.soot(0, -1, 1), -1);
        due(x.soot(0, 0, 2), -1);
        due(x.soot(0, 0, -1), -1);
        due(x.soot(1, 0, 1), -2);
        due(x.soot(-1, 0, 1), -2);
        for (int i = 3; i <= 8; i++) due(x.soot(0, i, 1), i);
        due(x.soot(0, 0, 1), -5);
        due(x.soot(1, 0, 1), -2);
        due(x.count(6), 8);
    }

    private static void p37() {
        begin(37);
        LampTempers x = new LampTempers();
        due(x.sweep(), 0);
        x.lamp(0, 0, 9);
        x.soot(0, 0, 1);
        x.soot(0, 1, 1);
        due(x.changed(-1), 0);
        due(x.sweep(), 2);
        due(x.sweep(), 0);
        due(x.count(6), 0);
        due(x.changed(-1), 5);
    }

    private static void p38() {
        begin(38);
        LampTempers x = street(11);
        due(x.stranger(-1), 72);
        due(x.stranger(0), 0);
        due(x.stranger(71), 71);
        due(x.stranger(72), -1);
        due(x.stranger(-2), -1);
        x.lamp(5, 2, 240);
        x.turn(0, 3, 1);
        due(x.stranger(-1), 72);
        x.soot(0, 3, 0);
        due(x.stranger(-1), 3);
        due(x.stranger(0), 4 * 6 + 2);
        due(x.stranger(1), 5 * 6 + 2);
        due(x.stranger(2), 6 * 6 + 2);
        due(x.stranger(3), -1);
        x.soot(0, 100, 1);
        due(x.stranger(-1), 0);
        due(x.stranger(0), -1);
        // It burns since minute 0 only, has the highest number, and drinks up its 240.
        rule(x, "shuns if kind=other and near<2;drinks 9");
        due(x.stranger(-1), 0);
        x.put(0, 2, 240);
        x.sweep();
        x.turn(0, 3, 0);
        x.turn(0, 30, 1);
        x.soot(0, 30, 1);
        due(x.stranger(-1), 72);
        // 240 by 9: 27 minutes, 0 .. 26.
        x.turn(0, 26, 1);
        x.soot(0, 26, 0);
        due(x.stranger(-1), 3);
        x.soot(0, 27, 0);
        due(x.stranger(-1), 3);
        for (int i = 1; i < 9; i++) x.lamp(0, 0, 9);
        due(x.stranger(-1), 3);
        x.lamp(0, 0, 9);
        due(x.stranger(-1), -1);
        due(x.stranger(0), -1);
        due(x.count(1), 10);
    }

    private static void p39() {
        begin(39);
        LampTempers x = street(1);
        due(x.changed(-1), 0);
        due(x.changed(0), -1);
        x.lamp(0, 2, 240);
        x.lamp(1, 4, 240);
        due(x.changed(-1), 10);
        due(x.changed(0), 0);
        due(x.changed(2), 3);
        due(x.changed(9), 11);
        due(x.changed(10), -1);
        due(x.changed(-2), -1);
        x.turn(0, 0, 1);
        x.turn(1, 0, 1);
        x.soot(1, 0, 0);
        // As it is it is not so; either takes the other's kind.
        due(x.changed(-1), 2);
        due(x.changed(0), 4);
        due(x.changed(1), 6 + 2);
        x.soot(0, 0, 1);
        due(x.changed(-1), 2);
        x.soot(1, 0, 1);
        due(x.changed(-1), 0);
        due(x.fact(0, 1), 2);
    }

    private static void p40() {
        begin(40);
        LampTempers x = street(2);
        x.lamp(2, 3, 240);
        x.turn(0, 0, 1);
        due(x.drunk(-1, 0, 0, 1), -1);
        due(x.drunk(1000001, 0, 0, 1), -1);
        due(x.drunk(0, 6, 0, 1), -1);
        due(x.drunk(0, -1, 0, 1), -1);
        due(x.drunk(0, 0, 12, 1), -1);
        due(x.drunk(0, 0, -1, 1), -1);
        due(x.drunk(0, 0, 0, 0), -1);
        due(x.drunk(0, 0, 0, 61), -1);
        due(x.drawn(0), -1);
        due(x.count(8), 8);
        due(x.drunk(0, 0, 0, 60), 120);
        due(x.status(), 0);
        due(x.count(3), 0);
        // s: 12345, odd: to 1; it stays within sight of the lamp from minute 1 on.
        due(x.drunk(0, 3, 0, 1), 1);
        due(x.drawn(1), 1);
        // 1000000 times 1103 and 12345, modulo 1000003: -3309 + 12345 = 9036, even: it stays at 0.
        due(x.drunk(1000000, 3, 0, 1), 120);
        due(x.drawn(1), 0);
        due(x.drunk(1000000, 3, 2, 1), 0);
        x.lantern(3, 60, 2);
        due(x.drunk(0, 0, 0, 60), 60);
    }

    private static void p41() {
        begin(41);
        LampTempers x = new LampTempers();
        due(x.drawn(0), -1);
        x.way(4, 6);
        x.way(4, 2);
        x.way(9, 4);
        x.shutter(1, 1);
        // 12345 % 4 = 1: way 0 to 6. s = (12345 * 1103 + 12345) % 1000003 = 628839: odd, back to 4.
        due(x.drunk(0, 0, 4, 3), 0);
        due(x.drawn(0), 4);
        due(x.drawn(1), 6);
        due(x.drawn(2), 4);
        long s = 12345L;
        s = (s * 1103 + 12345) % 1000003;
        due((int) s % 2, 1);
        s = (s * 1103 + 12345) % 1000003;
        int[] ends = {4, 6, 2, 9};
        due(x.drawn(3), ends[(int) (s % 4)]);
        due(x.drawn(4), x.drawn(3));
        due(x.drawn(119), x.drawn(3));
        due(x.drawn(120), -1);
        due(x.drawn(-1), -1);
        int was = x.drawn(3);
        due(x.drunk(0, 0, 4, 0), -1);
        due(x.drawn(3), was);
        x.drunk(5, 1, 11, 60);
        due(x.drawn(3), 11);
        due(x.drawn(60), 11);
    }

    private static void p42() {
        begin(42);
        LampTempers x = new LampTempers();
        due(x.image(-1), -1);
        due(x.image(2), -1);
        due(x.image(0), 0);
        due(x.image(1), 0);
        x.lamp(0, 0, 9);
        due(x.image(1), 0);
        due(x.back(0), 0);
        due(x.count(1), 0);
        due(x.back(1), 0);
        due(x.count(1), 1);
    }

    private static void p43() {
        begin(43);
        LampTempers x = street(2);
        due(x.back(0), -2);
        due(x.back(1), -2);
        due(x.back(2), -1);
        due(x.back(-1), -1);
        x.lamp(1, 2, 33);
        x.turn(0, 4, 1);
        x.lantern(0, 5, 2);
        x.go(0, 1);
        x.errand(3, 1, 2);
        x.terms(0, 6);
        rule(x, "drinks 2");
        x.soot(0, 3, 1);
        int lit = x.night(0, 0);
        int light = x.bright(6);
        x.image(0);
        x.way(5, 6);
        x.shutter(0, 1);
        x.put(0, 1, 3);
        x.lamp(4, 4, 4);
        x.turn(0, 5, 0);
        x.go(0, 2);
        x.errand(4, 1, 2);
        x.terms(0, 1);
        x.terms(1, 1);
        x.terms(2, 1);
        rule(x, "drinks 3");
        x.soot(0, 3, 0);
        x.drunk(7, 1, 2, 5);
        int drawn = x.drawn(5);
        law(x, "shuns or");
        rounds(x, "light 9 at 9");
        x.feed(0, 0, 0, 0, 0);
        x.row();
        x.feed(0, 0, 0, 0, 0);
        int refused = x.count(8) + x.count(9) + x.count(10) + x.count(11) + x.count(12);
        due(x.back(0), 0);
        int[] want = {2, 1, 1, 1, 1, 1, 1, 20};
        for (int what = 0; what < 8; what++) due(x.count(what), want[what]);
        due(x.count(8) + x.count(9) + x.count(10) + x.count(11) + x.count(12), refused);
        due(x.count(13), 0);
        due(x.count(14), 6);
        due(x.count(15), 3);
        due(x.count(16), 0);
        due(x.of(0, 2), 0);
        due(x.fact(0, 1), 2);
        due(x.asks(0, 0, 0, 2), 2);
        due(x.night(0, 0), lit);
        due(x.bright(6), light);
        due(x.fault(), -1);
        due(x.stopped(), 0);
        due(x.ash(), 1);
        due(x.drawn(5), drawn);
        due(x.go(0, 1), 2);
        due(x.undo(), 4);
        // Images stay as they were kept.
        due(x.back(0), 0);
        due(x.count(2), 1);
        due(x.go(0, 1), 2);
        x.end(0);
        due(law(x, "drinks 5"), 1);
        due(x.back(0), 0);
        due(x.count(5), 1);
    }

    private static void p44() {
        begin(44);
        LampTempers x = street(3);
        x.lamp(0, 0, 1);
        x.lamp(0, 0, 1);
        x.turn(0, 0, 1);
        x.lantern(0, 0, 0);
        x.errand(0, 0, 0);
        x.soot(0, 0, 0);
        rule(x, "shuns");
        x.feed(0, 0, 0, 0, 0);
        x.end(9);
        x.terms(0, 4);
        x.terms(1, 5);
        x.terms(2, 6);
        int[] want = {3, 2, 1, 1, 1, 1, 1, 9, 0, 0, 0, 0, 0, 0, 4, 5, 6};
        for (int what = 0; what < want.length; what++) due(x.count(what), want[what]);
        due(x.count(-1), -1);
        due(x.count(17), -1);
        due(x.count(MAX), -1);
        // Each by its own; questions and the tape's calls are not refused.
        x.way(0, 0);
        x.turn(9, 0, 0);
        x.turn(9, 0, 0);
        x.way(0, 1);
        x.way(0, 1);
        x.way(1, 0);
        for (int i = 0; i < 6; i++) x.lantern(0, 0, 0);
        for (int i = 0; i < 5; i++) {
            x.end(0);
            x.row();
        }
        x.end(-1);
        x.fact(77, 77);
        x.burns(5, 5, 5);
        due(x.count(8), 1);
        due(x.count(9), 2);
        due(x.count(10), 3);
        due(x.count(11), 5);
        due(x.count(12), 5);
        // What a row or rounds can't tell is not a call.
        x.feed(-1, -1, -1, -1, -1);
        due(x.row(), 0);
        due(x.count(8), 1);
        due(rounds(x, "light 7 at 0"), -3);
        due(x.count(9), 2);
        due(x.count(10), 4);
    }

    private static void p45() {
        begin(45);
        LampTempers x = new LampTempers();
        due(x.status(), 0);
        int[] got = {x.way(0, 0), x.status(), x.way(0, 1), x.status(), x.shutter(5, 0), x.status(), x.shutter(0, 0), x.status(),
            x.lamp(0, 0, 0), x.status(), x.lamp(0, 0, 1), x.status(), x.put(4, 0, 0), x.status(), x.put(0, 0, 0), x.status(),
            x.turn(7, 0, 0), x.status(), x.turn(0, 0, 0), x.status(), x.undo(), x.status(), x.undo(), x.status(),
            x.lantern(9, 0, 0), x.status(), x.lantern(0, 0, 0), x.status(), x.go(0, 5), x.status(), x.go(0, 1), x.status(),
            x.errand(0, 1, 0), x.status(), x.errand(0, 0, 0), x.status(), x.terms(1, 0), x.status(), x.terms(1, 1), x.status(),
            x.row(), x.status(), x.force(4), x.status(), x.force(-1), x.status(), x.soot(5, 0, 0), x.status(),
            x.soot(0, 0, 0), x.status(), x.drunk(-1, 0, 0, 0), x.status(), x.drunk(0, 0, 0, 1), x.status(), x.image(3), x.status(),
            x.image(0), x.status(), x.back(1), x.status(), x.back(0), x.status(), x.law(), x.status(), x.rounds(), x.status()};
        int[] want = {-1, -1, 0, 0, -2, -2, 0, 0,
            -1, -1, 0, 0, -2, -2, 0, 0,
            -2, -2, 1, 0, 0, 0, -3, -3,
            -1, -1, 0, 0, -3, -3, 1, 0,
            -1, -1, 0, 0, -1, -1, 3, 0,
            -6, -6, -2, -2, -1, 0, -2, -2,
            1, 0, -1, -1, 0, 0, -1, -1,
            0, 0, -2, -2, 0, 0, -6, -6, -6, -6};
        for (int i = 0; i < want.length; i++) due(got[i], want[i]);
        due(law(x, "shuns"), 0);
        due(x.status(), 0);
        x.way(0, 0);
        due(rounds(x, "light 0 at 0"), 1);
        due(x.status(), 0);
        // Others leave it as it was.
        x.way(0, 0);
        x.doused();
        x.sweep();
        x.feed(0, 0, 0, 0, 0);
        x.end(0);
        x.fact(0, 0);
        x.night(0, 0);
        x.stranger(-1);
        x.count(0);
        x.ash();
        x.fault();
        x.stopped();
        due(x.status(), -1);
        x.feed(0, 0, 0, 0, 0);
        due(x.row(), 6);
        due(x.status(), 0);
        x.feed(0, 0, 0, 0, 0);
        x.end(500);
        x.fact(99, 0);
        due(x.status(), 0);
    }

    public static void main(String[] args) {
        p1(); p2(); p3(); p4(); p5(); p6(); p7(); p8(); p9(); p10(); p11(); p12(); p13(); p14(); p15();
        p16(); p17(); p18(); p19(); p20(); p21(); p22(); p23(); p24(); p25(); p26(); p27(); p28(); p29(); p30();
        p31(); p32(); p33(); p34(); p35(); p36(); p37(); p38(); p39(); p40(); p41(); p42(); p43(); p44(); p45();
        System.out.println(wrong == 0 ? "all promises are kept" : wrong + " answers are not as due");
        if (wrong != 0) System.exit(1);
    }
}
