/** The sentences on the tape, on texts, laws and rounds (part II), and on rows of bytes. */
public final class TextBoundaries {
    /** What a law tells of one lamp that is answered by 1, if the law is broken or tells nothing. */
    private static final int UNTOLD = 1;
    private static final int BROKEN = -1;

    private TextBoundaries() {
    }

    /** How far a lamp 0 of kind 4 reaches in minute 33 by a law of these clauses. */
    private static int reach(String clauses) {
        LampTempers x = new LampTempers();
        x.lamp(0, 4, 9);
        x.terms(0, 7);
        x.terms(2, 5);
        Sentences.rule(x, clauses);
        return x.asks(0, 0, 33, 1);
    }

    private static int told(String sum) {
        return reach("reaches " + sum);
    }

    /** 1 if a test is so, 0 if it is not, BROKEN if neither it nor its contrary is. */
    private static int so(String test) {
        boolean isSo = told("9 if " + test) == 9;
        boolean isNot = told("9 if not (" + test + ")") == 9;
        return isSo == isNot ? isSo ? 2 : BROKEN : isSo ? 1 : 0;
    }

    private static void tape() {
        Sentences.says("a TAPE of at most 400 bytes; feed: NONE, if there would be more than 400");
        LampTempers x = new LampTempers();
        Sentences.due(x.count(7), 0);
        for (int i = 20; i <= 400; i += 20) Sentences.due(x.feed(1, 2, 3, 4, 5), i);
        Sentences.due(x.feed(1, 2, 3, 4, 5), -1);
        Sentences.due(x.count(7), 400);
        Sentences.due(x.end(400), 400);
        Sentences.due(x.end(381), 381);
        Sentences.due(x.feed(1, 2, 3, 4, 5), -1);
        Sentences.due(x.count(7), 381);
        Sentences.due(x.end(380), 380);
        Sentences.due(x.feed(1, 2, 3, 4, 5), 400);

        Sentences.says("The TAPE has its first n bytes alone: n. NONE, if it has not so many, or n is below 0");
        LampTempers y = new LampTempers();
        Sentences.due(y.end(0), 0);
        Sentences.due(y.end(1), -1);
        Sentences.due(y.end(-1), -1);
        y.feed(1, 2, 3, 4, 5);
        Sentences.due(y.end(21), -1);
        Sentences.due(y.count(7), 20);
        Sentences.due(y.end(20), 20);
        Sentences.due(y.end(19), 19);
        Sentences.due(y.end(20), -1);
        Sentences.due(y.end(-1), -1);
        Sentences.due(y.count(7), 19);
        Sentences.due(y.end(0), 0);
        Sentences.due(y.feed(1, 2, 3, 4, 5), 20);

        Sentences.says("Twenty bytes come behind the TAPE, four of each number, the highest first");
        LampTempers z = new LampTempers();
        for (int i = 0; i < 10; i++) z.lamp(0, 0, 9);
        z.feed(0x00010002, 0x03010475, 0x00057601, 0x06770107, 0x00010801);
        Sentences.due(z.row(), 6);
        int[] minutes = {0x00, 0x77, 0x76, 0x75, 0x03, 0x01};
        for (int minute : minutes) Sentences.due(z.undo(), minute == 0 ? 0 : minute);
        Sentences.due(z.ash(), 1);
        // A number below 0 has its bytes, too; what was ahead of the end stays.
        Sentences.write(z, "drinks 3");
        z.feed(0x20202020, 0xe9ffffff, -1, -1, -1);
        Sentences.due(z.law(), -6);
        Sentences.due(z.fault(), 12);
        Sentences.write(z, "drinks 3");
        z.feed(0x20202020, 0x20202020, 0x20202020, 0x20202020, 0x2020207f);
        z.end(27);
        Sentences.due(z.law(), 0);
    }

    private static void rows() {
        Sentences.says("A ROW: LAMP, MINUTE, on or off; one that can't be told is ASH");
        LampTempers x = new LampTempers();
        for (int i = 0; i < 9; i++) x.lamp(0, 0, 9);
        Sentences.due(Sentences.row(x, 8, 119, 1, 0, 0, 0), 2);
        Sentences.due(x.ash(), 0);
        Sentences.due(Sentences.row(x, 9, 0, 0), 0);
        Sentences.due(x.ash(), 1);
        Sentences.due(Sentences.row(x, 0, 120, 0, 255, 0, 0), 0);
        Sentences.due(x.ash(), 2);
        Sentences.due(Sentences.row(x, 0, 0, 2, 0, 255, 1, 0, 0, 255), 0);
        Sentences.due(x.ash(), 3);
        // Behind one that can't be told others can.
        Sentences.due(Sentences.row(x, 0, 120, 0, 0, 119, 0), 1);
        Sentences.due(x.ash(), 1);
        Sentences.due(x.count(2), 3);

        Sentences.says("one within which the TAPE ends is ASH");
        Sentences.due(Sentences.row(x, 0), 0);
        Sentences.due(x.ash(), 1);
        Sentences.due(Sentences.row(x, 0, 0), 0);
        Sentences.due(x.ash(), 1);
        Sentences.due(Sentences.row(x, 0, 0, 0), 1);
        Sentences.due(x.ash(), 0);
        Sentences.due(Sentences.row(x, 0, 0, 0, 0), 1);
        Sentences.due(x.ash(), 1);
        Sentences.due(x.count(2), 5);
        // Bytes that were on the tape before it ended are none of its own.
        x.feed(0, 0, 0, 0, 0);
        x.end(2);
        Sentences.due(x.row(), 0);
        Sentences.due(x.ash(), 1);

        Sentences.says("row: -6 the TAPE is empty; the TAPE is empty then");
        LampTempers y = Sentences.lamp();
        Sentences.due(y.row(), -6);
        Sentences.due(y.ash(), 0);
        Sentences.due(Sentences.row(y, 0, 1, 1), 1);
        Sentences.due(y.count(7), 0);
        Sentences.due(y.row(), -6);

        Sentences.says("How much ASH the latest row() had that was not REFUSED (0 ahead of any)");
        Sentences.due(new LampTempers().ash(), 0);
        Sentences.row(y, 7);
        Sentences.due(y.row(), -6);
        Sentences.due(y.ash(), 1);
        Sentences.row(y, 0, 0, 0);
        Sentences.due(y.ash(), 0);

        Sentences.says("A ROW of 400 bytes, where 24 SWITCHES have room");
        LampTempers z = Sentences.lamp();
        for (int i = 0; i < 20; i++) z.feed(0, 0, 0, 0, 0);
        Sentences.due(z.row(), 24);
        Sentences.due(z.ash(), 110);
        Sentences.due(z.count(2), 24);
        Sentences.due(Sentences.row(z, 0, 5, 1), 0);
        Sentences.due(z.ash(), 1);
        Sentences.due(z.status(), 0);
    }

    private static void tokens() {
        Sentences.says("longest rows of letters a .. z, of digits");
        Sentences.due(Sentences.fault("shunsif 1=1"), 0);
        Sentences.due(Sentences.fault("reaches1if 1=1and2=2or not3=3"), -1);
        Sentences.due(Sentences.fault("reaches 1 0"), 10);
        Sentences.due(Sentences.fault("reaches 10"), -1);
        Sentences.due(Sentences.fault("rea ches 1"), 0);
        Sentences.due(Sentences.fault("reaches lampkind"), 8);
        Sentences.due(Sentences.fault("reaches lam"), 8);
        Sentences.due(Sentences.fault("reaches lampa"), 8);
        Sentences.due(Sentences.fault("reaches lampz"), 8);
        Sentences.due(Sentences.fault("reaches lamp0"), 12);
        Sentences.due(Sentences.fault("reaches lamp9"), 12);
        Sentences.due(Sentences.fault("reaches 9a"), 9);
        Sentences.due(Sentences.fault("reaches 9z"), 9);
        Sentences.due(Sentences.fault("shuns if not1=1or2=2"), -1);

        Sentences.says("single other bytes");
        Sentences.due(Sentences.fault("shuns if 1<=1"), 11);
        Sentences.due(Sentences.fault("shuns if 1==1"), 11);
        Sentences.due(Sentences.fault("reaches 1--1"), 10);
        Sentences.due(Sentences.fault("shuns`"), 5);
        Sentences.due(Sentences.fault("shuns{"), 5);
        Sentences.due(Sentences.fault("shunsA"), 5);
        Sentences.due(Sentences.fault("shunsZ"), 5);
        Sentences.due(Sentences.fault("SHUNS"), 0);
        Sentences.due(Sentences.fault("reaches 1:"), 9);
        Sentences.due(Sentences.fault("reaches 1/"), 10);
        int[] signs = {0, 1, 9, 10, 13, 31, 33, 64, 94, 96, 123, 127, 128, 160, 255};
        for (int sign : signs) {
            Sentences.due(Sentences.fault("shuns" + (char) sign), 5);
            Sentences.due(Sentences.fault((char) sign + "shuns"), 0);
        }

        Sentences.says("FAULT: each byte, wherever one more TOKEN may stand");
        String digits = "0123456789";
        eachByte(true, "", " ", "");
        eachByte(true, "shuns ", ";", " ");
        eachByte(true, "reaches ", "[ ", digits);
        eachByte(true, "reaches 1 ", "+-*/%;", " ");
        eachByte(true, "shuns if ", "([ " + digits, "");
        eachByte(true, "shuns if 1 ", "<>=+-*/% ", "");
        eachByte(true, "shuns if 1=1 ", "+-*/%;", " ");
        eachByte(true, "shuns if [1 ", "+-*/%] ", "");
        eachByte(true, "shuns if (1=1 ", "+-*/% ", ")");
        eachByte(false, "", " ", "");
        eachByte(false, "light 1 ", "+-*/% ", "");
        eachByte(false, "light 1 at 1 ", "+-*/%;", " ");
        eachByte(false, "light 1 at 1 times ", " ", "123456789");
        eachByte(false, "light 1 at 1 times 1 ", ";", " ");

        Sentences.says("a TEXT of 400 TOKENS");
        for (String sign : "; ? ( [ = +".split(" ")) Sentences.due(Sentences.fault(sign.repeat(400)), 0);
        Sentences.due(Sentences.fault("shuns" + ";".repeat(395)), 6);
        Sentences.due(Sentences.fault("shuns if " + "(".repeat(391)), 17);
        Sentences.due(Sentences.fault("reaches " + "[".repeat(392)), 16);
        Sentences.due(Sentences.roundsFault("light" + "[".repeat(395)), 13);

        Sentences.says("any blanks (32) between");
        Sentences.due(Sentences.fault("   shuns   if   1   =   1   ;   shuns   "), -1);
        Sentences.due(Sentences.fault("shuns if(1=1)"), -1);
        Sentences.due(Sentences.fault("shuns if 1=1;shuns"), -1);
        Sentences.due(Sentences.fault(" ".repeat(395) + "shuns"), -1);
        Sentences.due(Sentences.fault("shuns" + " ".repeat(395)), -1);
        Sentences.due(Sentences.fault(" ".repeat(396) + "shun"), 396);
        Sentences.due(Sentences.fault(" ".repeat(399) + "?"), 399);
    }

    private static void clauses() {
        Sentences.says("CLAUSE {\";\" CLAUSE}, 12 at most (FAULT at the 13th's first TOKEN)");
        String twelve = Sentences.many("shuns", ";", 12);
        Sentences.due(Sentences.fault(twelve), -1);
        Sentences.due(Sentences.fault(twelve + ";shuns"), 72);
        Sentences.due(Sentences.fault(twelve + " ;  shuns"), 75);
        Sentences.due(Sentences.fault(twelve + ";"), 72);
        Sentences.due(Sentences.fault(twelve + ";  "), 74);
        Sentences.due(Sentences.fault(twelve + " ?"), 72);
        Sentences.due(Sentences.fault(twelve + ";;"), 72);
        String rounds = Sentences.many("snuff 0 at 0", ";", 12);
        Sentences.due(Sentences.roundsFault(rounds), -1);
        Sentences.due(Sentences.roundsFault(rounds + ";snuff 0 at 0"), 156);
        Sentences.due(Sentences.roundsFault(rounds + "; "), 157);
        // The twelfth is one like the others.
        Sentences.due(reach(Sentences.many("reaches 2", ";", 11) + ";reaches 3"), 3);
        LampTempers x = Sentences.lamp();
        Sentences.due(Sentences.rounds(x, rounds), 12);

        Sentences.says("CLAUSE {\";\" CLAUSE}: none is empty");
        Sentences.due(Sentences.fault(";"), 0);
        Sentences.due(Sentences.fault("shuns;"), 6);
        Sentences.due(Sentences.fault(";shuns"), 0);
        Sentences.due(Sentences.fault("shuns;;shuns"), 6);
        Sentences.due(Sentences.roundsFault("light 0 at 0;"), 13);
        Sentences.due(Sentences.fault("shuns shuns"), 6);
        Sentences.due(Sentences.roundsFault("light 0 at 0 light 0 at 0"), 13);
    }

    private static void numbers() {
        Sentences.says("NUMBER (to 1,000)");
        Sentences.due(Sentences.fault("reaches 0"), -1);
        Sentences.due(Sentences.fault("reaches 999"), -1);
        Sentences.due(Sentences.fault("reaches 1000"), -1);
        Sentences.due(Sentences.fault("reaches 1001"), 8);
        Sentences.due(Sentences.fault("reaches 0000000000001000"), -1);
        Sentences.due(Sentences.fault("reaches 0000000000001001"), 8);
        Sentences.due(Sentences.fault("reaches 2+10000"), 10);
        Sentences.due(Sentences.fault("reaches 4294967296"), 8);
        Sentences.due(Sentences.fault("reaches 18446744073709551617"), 8);
        Sentences.due(Sentences.fault("reaches " + "9".repeat(392)), 8);
        Sentences.due(Sentences.fault("reaches " + "0".repeat(392)), -1);
        Sentences.due(Sentences.roundsFault("light 0 at 1001"), 11);
        Sentences.due(Sentences.roundsFault("light 0 at 1 each 1001"), 18);
        Sentences.due(told("1000-991"), 9);
        Sentences.due(told("0009"), 9);
        Sentences.due(told("008-5"), 3);
        Sentences.due(so("1000>999 and 1000<1000+1"), 1);

        Sentences.says("a word, as told");
        for (String word : "lamp kind other near later minute wind mood".split(" ")) {
            Sentences.due(Sentences.fault("reaches " + word), -1);
            Sentences.due(Sentences.roundsFault("light " + word + " at 0"), word.equals("wind") ? -1 : 6);
        }
        for (String word : "lamps switches last done run wind".split(" ")) {
            Sentences.due(Sentences.roundsFault("light " + word + " at 0"), -1);
            Sentences.due(Sentences.fault("reaches " + word), word.equals("wind") ? -1 : 8);
        }
        for (String word : "shuns reaches drinks light snuff at each times if or and not x".split(" ")) {
            Sentences.due(Sentences.fault("reaches " + word), 8);
            Sentences.due(Sentences.roundsFault("light " + word + " at 0"), 6);
        }
    }

    /** A text with each byte behind it: by some the fault is at its end, by some there is none, else it is at the byte. */
    private static void eachByte(boolean isLaw, String text, String untilEnd, String fine) {
        for (char sign = 0; sign < 256; sign++) {
            int fault = isLaw ? Sentences.fault(text + sign) : Sentences.roundsFault(text + sign);
            int due = untilEnd.indexOf(sign) >= 0 ? text.length() + 1 : fine.indexOf(sign) >= 0 ? -1 : text.length();
            Sentences.due(fault, due);
        }
    }

    private static void parts() {
        Sentences.says("50 PARTS that are NUMBERS and words (FAULT at the 51st)");
        String fifty = Sentences.many("1", "+", 50);
        Sentences.due(Sentences.fault("reaches " + fifty), -1);
        Sentences.due(Sentences.fault("reaches " + fifty + "+1"), 108);
        Sentences.due(Sentences.fault("reaches " + fifty + " + lamp"), 110);
        Sentences.due(Sentences.fault("reaches " + fifty + "+["), 109);
        Sentences.due(Sentences.fault("reaches " + fifty + "+[1]"), 109);
        Sentences.due(Sentences.fault("reaches " + fifty + "+"), 108);
        Sentences.due(Sentences.fault("reaches " + Sentences.many("[wind]", "*", 50)), -1);
        Sentences.due(Sentences.fault("reaches " + Sentences.many("wind", "*", 51)), 8 + 50 * 5);
        String tests = Sentences.many("1=1", " or ", 25);
        Sentences.due(Sentences.fault("shuns if " + tests), -1);
        Sentences.due(Sentences.fault("shuns if " + tests + " or 1=1"), 9 + 25 * 7);
        // Those of all clauses together, of sums and tests alike.
        Sentences.due(Sentences.fault("reaches " + Sentences.many("1", "+", 25) + " if " + Sentences.many("1=1", " and ", 12) + ";drinks 7"), -1);
        Sentences.due(Sentences.fault("reaches " + Sentences.many("1", "+", 25) + " if " + Sentences.many("1=1", " and ", 12) + ";drinks 7-7"),
            57 + 4 + 12 * 8 - 5 + 8 + 2);
        String rounds = Sentences.many("light 0 at 0 each 0", ";", 12);
        Sentences.due(Sentences.roundsFault(rounds + " if " + Sentences.many("1", "*", 13) + "=1"), -1);
        Sentences.due(Sentences.roundsFault(rounds + " if " + Sentences.many("1", "*", 14) + "=1"), 12 * 20 - 1 + 4 + 28);
        // What all the 50 tell together, and what a test of 50 is.
        Sentences.due(told(Sentences.many("1", "+", 49) + "-43"), 6);
        Sentences.due(so(Sentences.many("1=2", " or ", 24)), 0);
        Sentences.due(told("9 if " + Sentences.many("1=2", " or ", 23) + " or 2=2"), 9);

        Sentences.says("TIMES: a NUMBER 1 .. 20 (not counted)");
        String timed = Sentences.many("light 0 at 0 times 1", ";", 12);
        Sentences.due(Sentences.roundsFault(timed + " if " + Sentences.many("1", "-", 25) + "=1"), -1);
        Sentences.due(Sentences.roundsFault(timed + " if " + Sentences.many("1", "-", 26) + "=1"), 12 * 21 - 1 + 4 + 52);
        Sentences.due(Sentences.roundsFault("light 0 at 0 times 0"), 19);
        Sentences.due(Sentences.roundsFault("light 0 at 0 times 1"), -1);
        Sentences.due(Sentences.roundsFault("light 0 at 0 times 20"), -1);
        Sentences.due(Sentences.roundsFault("light 0 at 0 times 21"), 19);
        Sentences.due(Sentences.roundsFault("light 0 at 0 times 1000"), 19);
        Sentences.due(Sentences.roundsFault("light 0 at 0 times"), 18);
        Sentences.due(Sentences.roundsFault("light 0 at 0 times wind"), 19);
        Sentences.due(Sentences.roundsFault("light 0 at 0 times [2]"), 19);
        Sentences.due(Sentences.roundsFault("light 0 at 0 times 2+1"), 20);
        Sentences.due(Sentences.roundsFault("light 0 at 0 times 2 times 2"), 21);
        LampTempers x = Sentences.lamp();
        Sentences.due(Sentences.rounds(x, "light 0 at 7 times 1"), 1);
        Sentences.due(Sentences.rounds(x, "light 0 at 7 times 20"), 20);
    }

    private static void brackets() {
        Sentences.says("8 brackets of both kinds within one another (FAULT at the 9th)");
        Sentences.due(Sentences.fault("reaches [[[[[[[[1]]]]]]]]"), -1);
        Sentences.due(Sentences.fault("reaches [[[[[[[[[1]]]]]]]]]"), 16);
        Sentences.due(Sentences.fault("shuns if ((((((((1=1))))))))"), -1);
        Sentences.due(Sentences.fault("shuns if (((((((((1=1)))))))))"), 17);
        Sentences.due(Sentences.fault("shuns if (((([[[[1]]]]=[[[[1]]]]))))"), -1);
        Sentences.due(Sentences.fault("shuns if (((([[[[1]]]]=[[[[[1]]]]]))))"), 27);
        Sentences.due(Sentences.fault("shuns if ((((((((1=1 and [1]=1))))))))"), 25);
        Sentences.due(Sentences.fault("shuns if (((((((1=1 and [1]=1)))))))"), -1);
        Sentences.due(Sentences.fault("shuns if ((((((((not(1=1)))))))))"), 20);
        Sentences.due(Sentences.roundsFault("light [[[[[[[[0]]]]]]]] at [[[[[[[[0]]]]]]]] each [[[[[[[[0]]]]]]]]"), -1);
        Sentences.due(Sentences.roundsFault("light 0 at [[[[[[[[[0]]]]]]]]]"), 19);
        Sentences.due(Sentences.roundsFault("light 0 at 0 each [[[[[[[[[0]]]]]]]]]"), 26);
        // One behind the other they may be more.
        Sentences.due(Sentences.fault("reaches " + Sentences.many("[1]", "+", 50)), -1);
        Sentences.due(Sentences.fault("shuns if " + Sentences.many("(1=1)", " or ", 20)), -1);
        Sentences.due(told("[[[[[[[[2+1]*2]]]]]]]+[[[[[[[[1]]]]]]]]"), 7);
        Sentences.due(told("9 if ((((((((1=1))))))))"), 9);
        Sentences.due(told("9 if ((((((((1=2))))))))"), UNTOLD);

        Sentences.says("a bracket of one kind is not closed by the other");
        Sentences.due(Sentences.fault("reaches [1)"), 10);
        Sentences.due(Sentences.fault("reaches (1)"), 8);
        Sentences.due(Sentences.fault("shuns if (1=1]"), 13);
        Sentences.due(Sentences.fault("shuns if [1=1]"), 11);
        Sentences.due(Sentences.fault("shuns if (1)=1"), 11);
        Sentences.due(Sentences.fault("reaches [1"), 10);
        Sentences.due(Sentences.fault("reaches 1]"), 9);
        Sentences.due(Sentences.fault("reaches []"), 9);
        Sentences.due(Sentences.fault("shuns if ()"), 10);
        Sentences.due(Sentences.fault("shuns if (1=1"), 13);
        Sentences.due(Sentences.fault("shuns if 1=1)"), 12);
    }

    private static void faults() {
        Sentences.says("FAULT: the first TOKEN that can't go on there (the end's: the TEXT's length)");
        Sentences.due(Sentences.fault(""), 0);
        Sentences.due(Sentences.fault("   "), 3);
        Sentences.due(Sentences.fault(" ".repeat(400)), 400);
        Sentences.due(Sentences.roundsFault(""), 0);
        Sentences.due(Sentences.roundsFault("   "), 3);
        Sentences.due(Sentences.fault("reaches"), 7);
        Sentences.due(Sentences.fault("reaches   "), 10);
        Sentences.due(Sentences.fault("reaches 1+   "), 13);
        Sentences.due(Sentences.fault("reaches if"), 8);
        Sentences.due(Sentences.fault("drinks ;"), 7);
        Sentences.due(Sentences.fault("shuns 1"), 6);
        Sentences.due(Sentences.fault("shuns if"), 8);
        Sentences.due(Sentences.fault("shuns if;"), 8);
        Sentences.due(Sentences.fault("shuns if 1"), 10);
        Sentences.due(Sentences.fault("shuns if 1;"), 10);
        Sentences.due(Sentences.fault("shuns if 1="), 11);
        Sentences.due(Sentences.fault("shuns if =1"), 9);
        Sentences.due(Sentences.fault("shuns if not"), 12);
        Sentences.due(Sentences.fault("shuns if not ;"), 13);
        Sentences.due(Sentences.fault("shuns if 1=1 and"), 16);
        Sentences.due(Sentences.fault("shuns if 1=1 or ;"), 16);
        Sentences.due(Sentences.fault("shuns if 1=1 1"), 13);
        Sentences.due(Sentences.fault("shuns if 1=1 not"), 13);
        Sentences.due(Sentences.fault("shuns if 1=1 if 1=1"), 13);
        Sentences.due(Sentences.fault("shuns if 1=1=1"), 12);
        Sentences.due(Sentences.fault("shuns if 1=1<1"), 12);
        Sentences.due(Sentences.fault("shuns if and 1=1"), 9);
        Sentences.due(Sentences.fault("light 0 at 0"), 0);
        Sentences.due(Sentences.fault("lamp"), 0);
        Sentences.due(Sentences.fault("reaches 1;light 0 at 0"), 10);
        Sentences.due(Sentences.roundsFault("shuns"), 0);
        Sentences.due(Sentences.roundsFault("light"), 5);
        Sentences.due(Sentences.roundsFault("light 0"), 7);
        Sentences.due(Sentences.roundsFault("light 0 0"), 8);
        Sentences.due(Sentences.roundsFault("light 0 at"), 10);
        Sentences.due(Sentences.roundsFault("light 0 at if"), 11);
        Sentences.due(Sentences.roundsFault("light 0 if 1=1"), 8);
        Sentences.due(Sentences.roundsFault("light 0 at 0 at 0"), 13);
        Sentences.due(Sentences.roundsFault("light 0 at 0 each"), 17);
        Sentences.due(Sentences.roundsFault("light 0 at 0 each 1 each 1"), 20);
        Sentences.due(Sentences.roundsFault("light 0 at 0 times 2 each 1"), 21);
        Sentences.due(Sentences.roundsFault("light 0 at 0 if 1=1 times 2"), 20);
        Sentences.due(Sentences.roundsFault("light 0 at 0 if"), 15);
        Sentences.due(Sentences.roundsFault("light 0 at 0 each 1 times 2 if 1=1"), -1);
        Sentences.due(Sentences.roundsFault("light 0 at 0;snuff 0 at"), 23);
    }

    private static void limits() {
        Sentences.says("Beyond 1,000,000,000 either way a SUM is BROKEN");
        Sentences.due(told("1000*1000*1000"), 9);
        Sentences.due(told("1000*1000*1000+1"), UNTOLD);
        Sentences.due(told("1000*1000*1000+0"), 9);
        Sentences.due(told("1000*1000*1000-1"), 9);
        Sentences.due(told("0-1000*1000*1000"), 0);
        Sentences.due(told("0-1000*1000*1000-1"), UNTOLD);
        Sentences.due(told("0-1000*1000*1000+1"), 0);
        Sentences.due(told("[0-1000]*1000*1000"), 0);
        Sentences.due(told("1000*1000*1000*2"), UNTOLD);
        Sentences.due(told("[0-1000]*1000*1000*2"), UNTOLD);
        Sentences.due(told("[1000*1000*1000]*[1000*1000*1000]"), UNTOLD);
        Sentences.due(told("[1000*1000*1000]*[0-1000*1000*1000]"), UNTOLD);
        Sentences.due(told("1000*1000*1000+1000*1000*1000"), UNTOLD);
        Sentences.due(told("0-1000*1000*1000-1000*1000*1000"), UNTOLD);
        // Also where it would come back later.
        Sentences.due(told("1000*1000*1000+1-1"), UNTOLD);
        Sentences.due(told("1000*1000*1000*2/1000/1000/1000"), UNTOLD);
        Sentences.due(told("1000*1000*1000/1000/1000/200"), 5);
        Sentences.due(told("[1000*1000*1000+1]*0+3"), UNTOLD);
        // 65536 times 65536 is 0 where numbers have 32 bits; 2 to the 31st is below 0.
        Sentences.due(told("[256*256]*[256*256]+5"), UNTOLD);
        Sentences.due(told("[256*256]*[128*256]"), UNTOLD);
        Sentences.due(told("7 if 1000*1000*1000>0"), 7);
        Sentences.due(so("1000*1000*1000+1>0"), BROKEN);
        Sentences.due(so("0<1000*1000*1000+1"), BROKEN);
        Sentences.due(so("0-1000*1000*1000-1<0"), BROKEN);
        Sentences.due(so("0-1000*1000*1000<0"), 1);

        Sentences.says("divided by 0 it is BROKEN");
        Sentences.due(told("5/0"), UNTOLD);
        Sentences.due(told("5%0"), UNTOLD);
        Sentences.due(told("0/0"), UNTOLD);
        Sentences.due(told("0%0"), UNTOLD);
        Sentences.due(told("5/[2-2]"), UNTOLD);
        Sentences.due(told("5%[2-2]"), UNTOLD);
        Sentences.due(told("5*[1/0]"), UNTOLD);
        Sentences.due(told("0*[1/0]+4"), UNTOLD);
        Sentences.due(told("0/5"), 0);
        Sentences.due(told("0%5"), 0);
        Sentences.due(so("1/0=1"), BROKEN);
        Sentences.due(so("1=1%0"), BROKEN);

        Sentences.says("/ cut towards 0, % what is left then");
        Sentences.due(told("7/2"), 3);
        Sentences.due(told("[0-7]/2+9"), 6);
        Sentences.due(told("7/[0-2]+9"), 6);
        Sentences.due(told("[0-7]/[0-2]"), 3);
        Sentences.due(told("[0-1]/2+4"), 4);
        Sentences.due(told("7%2+2"), 3);
        Sentences.due(told("[0-7]%2+4"), 3);
        Sentences.due(told("7%[0-2]+4"), 5);
        Sentences.due(told("[0-7]%[0-2]+4"), 3);
        Sentences.due(told("6%3+4"), 4);
        Sentences.due(told("7/8"), 0);
        Sentences.due(told("7%8"), 7);
        Sentences.due(told("[1000*1000*1000]%1000+2"), 2);
    }

    private static void orders() {
        Sentences.says("SUM: TERM {(\"+\" | \"-\") TERM}. TERM: PART {(\"*\" | \"/\" | \"%\") PART}");
        Sentences.due(told("2+3*2"), 8);
        Sentences.due(told("[2+1]*3"), 9);
        Sentences.due(told("9-4-3"), 2);
        Sentences.due(told("9-4+3"), 8);
        Sentences.due(told("9-[4-3]"), 8);
        Sentences.due(told("8/2*2"), 8);
        Sentences.due(told("8/[2*2]"), 2);
        Sentences.due(told("9/2/2"), 2);
        Sentences.due(told("9%5*2"), 8);
        Sentences.due(told("2*9%5"), 3);
        Sentences.due(told("9-8/4"), 7);
        Sentences.due(told("9-8%5"), 6);

        Sentences.says("TEST: BOTH {\"or\" BOTH}. BOTH: PLAIN {\"and\" PLAIN}. \"not\" PLAIN");
        Sentences.due(so("1=2 and 1=2 or 1=1"), 1);
        Sentences.due(so("1=1 or 1=2 and 1=2"), 1);
        Sentences.due(so("(1=1 or 1=2) and 1=2"), 0);
        Sentences.due(so("not 1=2 and 1=2"), 0);
        Sentences.due(so("not (1=2 and 1=2)"), 1);
        Sentences.due(so("not 1=1 or 1=1"), 1);
        Sentences.due(so("not (1=1 or 1=1)"), 0);
        Sentences.due(so("not not 1=1"), 1);
        Sentences.due(so("not not not 1=1"), 0);
        Sentences.due(so("not ".repeat(94) + "1=1"), 1);
        Sentences.due(so("not ".repeat(93) + "1=1"), 0);
        Sentences.due(so("1<1 or 1>1"), 0);
        Sentences.due(so("1<2 and 2>1 and 2=2"), 1);
        Sentences.due(so("2<1 or 1>2 or 1=2"), 0);
        Sentences.due(so("1+1=2 and 2<1+2 and 3-1>1"), 1);

        Sentences.says("\"or\", \"and\" ask what stands behind only if it can still matter");
        Sentences.due(so("1=1 or 1/0=1"), 1);
        Sentences.due(so("1=1 or 1=2 or 1/0=1"), 1);
        Sentences.due(so("1=2 or 1=1 or 1/0=1"), 1);
        Sentences.due(so("1=1 or 1/0=1 and 1/0=1"), 1);
        Sentences.due(so("not (1=2 and 1/0=1)"), 1);
        Sentences.due(so("not (1=1 and 1=2 and 1/0=1)"), 1);
        Sentences.due(so("1=2 and 1/0=1 or 1=1"), 1);
        Sentences.due(so("1=2 and 1/0=1 and 1/0=1 or 1=1"), 1);
        Sentences.due(so("(1=1 or 1/0=1) and 1=1"), 1);
        Sentences.due(so("not (1=2 and 1/0=1) and 1=1"), 1);

        Sentences.says("a part that was asked and is BROKEN makes all of it BROKEN");
        Sentences.due(so("1=2 or 1/0=1"), BROKEN);
        Sentences.due(so("1/0=1 or 1=1"), BROKEN);
        Sentences.due(so("1=1 and 1/0=1"), BROKEN);
        Sentences.due(so("1/0=1 and 1=2"), BROKEN);
        Sentences.due(so("1=1 and 1/0=1 or 1=1"), BROKEN);
        Sentences.due(so("1=1 and 1=1 and 1/0=1"), BROKEN);
        Sentences.due(so("not 1/0=1"), BROKEN);
        Sentences.due(so("(1=2 or 1/0=1) and 1=2"), BROKEN);
    }

    public static void main(String[] args) {
        tape();
        rows();
        tokens();
        clauses();
        numbers();
        parts();
        brackets();
        faults();
        limits();
        orders();
        Sentences.finish();
    }
}
