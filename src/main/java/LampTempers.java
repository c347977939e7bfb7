import java.util.Arrays;

/**
 * A town whose street lamps can't stand one another. The promises stand in the document (DOC.md);
 * the words in capitals there are used here in small letters.
 */
public final class LampTempers {
    public static final int NONE = -1;

    private static final int CORNERS = 12;
    private static final int WAYS = 20;
    private static final int LAMPS = 10;
    private static final int KINDS = 6;
    private static final int OIL = 240;
    private static final int MINUTES = 120;
    private static final int SWITCHES = 24;
    private static final int LANTERNS = 2;
    private static final int GOES = 15;
    private static final int ERRANDS = 6;
    private static final int LAWS = 6;
    private static final int SOOT = 8;
    private static final int TAPE = 400;
    private static final int FEED = 20;
    private static final int SEEDS = 1000000;
    private static final int DRUNK_MINUTES = 60;
    private static final int WORST_GOES = 3;
    private static final int IMAGES = 2;

    // By what a call is refused.
    private static final int SENSELESS = -1;
    private static final int MISSING = -2;
    private static final int BARRED = -3;
    private static final int FULL = -5;
    private static final int GARBLED = -6;

    // Columns of the town's tables.
    private static final int LOWER = 0;
    private static final int HIGHER = 1;
    private static final int IS_SHUTTERED = 2;
    private static final int CORNER = 0;
    private static final int KIND = 1;
    private static final int OIL_FULL = 2;
    private static final int WHOSE = 0;
    private static final int WHEN = 1;
    private static final int IS_ON = 2;
    private static final int FROM = 1;
    private static final int TILL = 2;
    private static final int LANTERN_KIND = 0;
    private static final int LANTERN_FROM = 1;
    private static final int LANTERN_CORNER = 2;
    private static final int LANTERN_GOES = 3;
    private static final int LANTERN_FIRST = 4;

    private static final int WIND = 0;
    private static final int REST = 1;
    private static final int MOOD = 2;
    private static final int TERMS = 3;

    // Verbs of clauses, as the law or the rounds tell them.
    private static final int SHUNS = 0;
    private static final int REACHES = 1;
    private static final int DRINKS = 2;
    private static final int LIGHT = 3;
    private static final int VERBS = 5;

    // Words by their places in the machine's row.
    private static final int WORD_LAMP = 0;
    private static final int WORD_KIND = 1;
    private static final int WORD_OTHER = 2;
    private static final int WORD_NEAR = 3;
    private static final int WORD_LATER = 4;
    private static final int WORD_MINUTE = 5;
    private static final int WORD_WIND = 6;
    private static final int WORD_MOOD = 7;
    private static final int WORD_LAMPS = 8;
    private static final int WORD_SWITCHES = 9;
    private static final int WORD_LAST = 10;
    private static final int WORD_DONE = 11;
    private static final int WORD_RUN = 12;
    private static final int WORDS = 13;

    // Columns of a clause.
    private static final int VERB = 0;
    private static final int FIRST = 1;
    private static final int AT = 2;
    private static final int EACH = 3;
    private static final int TIMES = 4;
    private static final int TEST = 5;
    private static final int CLAUSE_WIDTH = 6;
    private static final int CLAUSES = 12;

    // What the machine can do; an instruction is one of these with its number in the bits above.
    private static final int OP_END = 0;
    private static final int OP_NUMBER = 1;
    private static final int OP_WORD = 2;
    private static final int OP_ADD = 3;
    private static final int OP_SUBTRACT = 4;
    private static final int OP_MULTIPLY = 5;
    private static final int OP_DIVIDE = 6;
    private static final int OP_REMAIN = 7;
    private static final int OP_LESS = 8;
    private static final int OP_MORE = 9;
    private static final int OP_SAME = 10;
    private static final int OP_NOT = 11;
    private static final int OP_OR = 12;
    private static final int OP_AND = 13;
    private static final int OP_BITS = 5;
    private static final int OP_MASK = 31;

    private final Town town = new Town();
    private final Town[] images = new Town[IMAGES];
    private final int[] tape = new int[TAPE];
    private final int[] refusals = new int[5];
    private final int[] drawnPlaces = new int[MINUTES];
    private final Reader reader = new Reader();
    private final Machine machine = new Machine();
    private final Streets streets = new Streets(town);
    private final Tempers tempers = new Tempers(town, machine, streets);
    private final Night nightly = new Night(town, streets, tempers);
    private final Chronicle chronicle = new Chronicle(town, streets, tempers, nightly);
    private final Guesses guesses = new Guesses(town, streets, nightly);
    private final Planner planner = new Planner(town, streets, tempers, nightly);
    private int taped = 0;
    private int lastFault = NONE;
    private int lastAsh = 0;
    private int lastStopped = NONE;
    private int lastStatus = 0;
    private boolean rebuilt = true;
    private boolean changedSince = true;

    /** Dark corners. */
    public LampTempers() {
        drawnPlaces[0] = NONE;
    }

    public int way(int a, int b) {
        if (!isIn(a, CORNERS) || !isIn(b, CORNERS) || a == b) {
            return refuse(SENSELESS);
        }
        if (town.isWay(a, b)) {
            return refuse(BARRED);
        }
        if (town.ways.isFull()) {
            return refuse(FULL);
        }
        rebuilt = true;
        return change(town.ways.add(Math.min(a, b), Math.max(a, b), 0));
    }

    public int shutter(int way, int is) {
        if (!isIn(is, 2)) {
            return refuse(SENSELESS);
        }
        if (!town.ways.has(way)) {
            return refuse(MISSING);
        }
        rebuilt = true;
        return change(town.ways.swap(way, IS_SHUTTERED, is));
    }

    public int of(int way, int what) {
        return town.ways.get(way, what);
    }

    public int far(int a, int b, int what) {
        if (!isIn(a, CORNERS) || !isIn(b, CORNERS) || !isIn(what, 2)) {
            return NONE;
        }
        look();
        return what == 0 ? streets.steps(a, b) : streets.sight(a, b);
    }

    public int lamp(int corner, int kind, int oil) {
        if (!isIn(corner, CORNERS) || !isIn(kind, KINDS) || oil < 1 || oil > OIL) {
            return refuse(SENSELESS);
        }
        if (town.lamps.isFull()) {
            return refuse(FULL);
        }
        rebuilt = true;
        return change(town.lamps.add(corner, kind, oil));
    }

    public int put(int lamp, int what, int value) {
        if (!isFact(what, value)) {
            return refuse(SENSELESS);
        }
        if (!town.lamps.has(lamp)) {
            return refuse(MISSING);
        }
        rebuilt = true;
        return change(town.lamps.swap(lamp, what, value));
    }

    public int fact(int lamp, int what) {
        return town.lamps.get(lamp, what);
    }

    public int turn(int lamp, int minute, int on) {
        int why = town.tell(lamp, minute, on);
        return why != 0 ? refuse(why) : change(town.switches.size);
    }

    public int undo() {
        int last = town.switches.size - 1;
        if (last < 0) {
            return refuse(BARRED);
        }
        int minute = town.switches.get(last, WHEN);
        town.switches.size = last;
        return change(minute);
    }

    public int lantern(int kind, int minute, int corner) {
        if (!isIn(kind, KINDS) || !isIn(minute, MINUTES) || !isIn(corner, CORNERS)) {
            return refuse(SENSELESS);
        }
        if (town.lanterns.isFull()) {
            return refuse(FULL);
        }
        return change(town.lanterns.add(kind, minute, corner));
    }

    public int go(int lantern, int corner) {
        if (!isIn(corner, CORNERS)) {
            return refuse(SENSELESS);
        }
        if (!town.lanterns.has(lantern)) {
            return refuse(MISSING);
        }
        int goes = town.lanterns.get(lantern, LANTERN_GOES);
        int last = town.lanterns.get(lantern, goes == 0 ? LANTERN_CORNER : LANTERN_FIRST + goes - 1);
        if (last != corner && !town.isWay(last, corner)) {
            return refuse(BARRED);
        }
        if (goes == GOES) {
            return refuse(FULL);
        }
        town.lanterns.swap(lantern, LANTERN_FIRST + goes, corner);
        town.lanterns.swap(lantern, LANTERN_GOES, goes + 1);
        return change(goes + 1);
    }

    public int doused() {
        int were = town.lanterns.size;
        town.lanterns.size = 0;
        changedSince = true;
        return were;
    }

    public int errand(int corner, int from, int till) {
        if (!isIn(corner, CORNERS) || !isIn(from, MINUTES) || !isIn(till, MINUTES) || till < from) {
            return refuse(SENSELESS);
        }
        if (town.errands.isFull()) {
            return refuse(FULL);
        }
        return change(town.errands.add(corner, from, till));
    }

    public int terms(int what, int value) {
        if (!isIn(what, TERMS) || !isIn(value, 10) || what == REST && value == 0) {
            return refuse(SENSELESS);
        }
        int was = town.terms[what];
        town.terms[what] = value;
        return change(was);
    }

    public int feed(int a, int b, int c, int d, int e) {
        if (taped + FEED > TAPE) {
            return NONE;
        }
        write(a);
        write(b);
        write(c);
        write(d);
        write(e);
        return taped;
    }

    public int end(int n) {
        if (n < 0 || n > taped) {
            return NONE;
        }
        taped = n;
        return n;
    }

    public int row() {
        int length = takeTape();
        if (length == 0) {
            return refuse(GARBLED);
        }
        int before = town.switches.size;
        int ash = length % 3 == 0 ? 0 : 1;
        for (int i = 0; i + 2 < length && i + 2 < TAPE; i += 3) {
            if (town.tell(tape[i], tape[i + 1], tape[i + 2]) != 0) {
                ash++;
            }
        }
        lastAsh = ash;
        return change(town.switches.size - before);
    }

    public int ash() {
        return lastAsh;
    }

    public int law() {
        int length = takeTape();
        if (town.lawCount >= LAWS) {
            return refuse(FULL);
        }
        Text text = reader.read(tape, length, true);
        lastFault = reader.fault;
        if (text == null) {
            return refuse(GARBLED);
        }
        return change(town.keepLaw(text));
    }

    public int rounds() {
        Text text = reader.read(tape, takeTape(), false);
        lastFault = reader.fault;
        lastStopped = NONE;
        if (text == null) {
            return refuse(GARBLED);
        }
        int before = town.switches.size;
        for (int clause = 0; clause < text.size; clause++) {
            int why = runClause(text, clause, before);
            if (why != 0) {
                lastStopped = clause;
                town.switches.size = before;
                return refuse(why);
            }
        }
        return change(town.switches.size - before);
    }

    public int fault() {
        return lastFault;
    }

    public int stopped() {
        return lastStopped;
    }

    public int force(int law) {
        if (law < NONE || law >= town.lawCount) {
            return refuse(MISSING);
        }
        int was = town.force;
        town.force = law;
        return change(was);
    }

    public int asks(int lamp, int other, int minute, int what) {
        if (!town.lamps.has(lamp) || !isIn(minute, MINUTES) || !isIn(what, 3)) {
            return NONE;
        }
        look();
        int kind = town.lamps.get(lamp, KIND);
        if (what != SHUNS) {
            return tempers.ask(what, lamp, kind, NONE, NONE, NONE, minute);
        }
        if (!town.lamps.has(other) || other == lamp) {
            return NONE;
        }
        int near = streets.sight(town.lamps.get(lamp, CORNER), town.lamps.get(other, CORNER));
        return tempers.ask(SHUNS, lamp, kind, town.lamps.get(other, KIND), near, lamp > other ? 1 : 0, minute);
    }

    public int burns(int lamp, int minute, int what) {
        if (!town.lamps.has(lamp) || !isIn(minute, MINUTES) || !isIn(what, 4)) {
            return NONE;
        }
        look();
        chronicle.relate();
        switch (what) {
            case 0:
                return chronicle.lit[minute] >> lamp & 1;
            case 1:
                return chronicle.oil[minute * LAMPS + lamp];
            case 2:
                return countBit(chronicle.out, lamp, minute);
            default:
                return chronicle.out[minute] >> lamp & 1;
        }
    }

    public int bright(int minute) {
        if (!isIn(minute, MINUTES)) {
            return NONE;
        }
        look();
        chronicle.relate();
        return chronicle.lightAt(minute);
    }

    public int night(int lamp, int what) {
        if (lamp != NONE && !town.lamps.has(lamp) || !isIn(what, 3)) {
            return NONE;
        }
        look();
        chronicle.relate();
        int lowest = lamp == NONE ? 0 : lamp;
        int highest = lamp == NONE ? town.lamps.size - 1 : lamp;
        if (what == 2) {
            return chronicle.firstOut(lamp == NONE ? (1 << LAMPS) - 1 : 1 << lamp);
        }
        int sum = 0;
        for (int one = lowest; one <= highest; one++) {
            sum += countBit(what == 0 ? chronicle.lit : chronicle.out, one, MINUTES - 1);
        }
        return sum;
    }

    public int judge(int what) {
        if (!isIn(what, 3)) {
            return NONE;
        }
        look();
        chronicle.relate();
        return chronicle.darkErrands(what);
    }

    public int round(int corner, int i) {
        if (!isIn(corner, CORNERS) || i < NONE || i >= town.lamps.size) {
            return NONE;
        }
        look();
        streets.findRound(corner);
        return i == NONE || streets.roundSteps == NONE ? streets.roundSteps : streets.roundRow[i];
    }

    public int walk(int from, int minute, int to, int light, int i) {
        if (!isIn(from, CORNERS) || !isIn(minute, MINUTES) || !isIn(to, CORNERS) || !isIn(light, 2) || i < NONE) {
            return NONE;
        }
        look();
        chronicle.relate();
        chronicle.findWalk(from, minute, to, light);
        int end = chronicle.walkEnd;
        if (i == NONE || end == NONE) {
            return end;
        }
        return i > end - minute ? NONE : chronicle.walkRow[minute + i];
    }

    public int worst(int kind, int minute, int corner, int n, int i) {
        if (!isIn(kind, KINDS) || !isIn(minute, MINUTES) || !isIn(corner, CORNERS) || !isIn(n, WORST_GOES + 1)
                || i < NONE || i >= n) {
            return NONE;
        }
        look();
        guesses.findWorst(kind, minute, corner, n);
        return i == NONE ? guesses.worstMinutes : guesses.worstRow[i];
    }

    public int hang(int sites, int kinds, int corners, int minute, int what) {
        if (!areBits(sites, CORNERS, Planner.SITES) || !areBits(kinds, KINDS, Planner.KINDS_TOLD)
                || !areBits(corners, CORNERS, CORNERS) || !isIn(minute, MINUTES)
                || !isIn(what, 2 + Integer.bitCount(sites))) {
            return NONE;
        }
        look();
        planner.findHanging(sites, kinds, corners, minute);
        if (what == 1) {
            return planner.hangWays;
        }
        if (planner.hangWays == 0) {
            return NONE;
        }
        return what == 0 ? planner.hangLamps : planner.hangRow[what - 2];
    }

    public int shutters(int what) {
        if (!isIn(what, 3)) {
            return NONE;
        }
        look();
        planner.findPeace();
        if (what == 2) {
            return planner.peaceWays;
        }
        if (planner.peaceWays == 0) {
            return NONE;
        }
        return what == 0 ? Integer.bitCount(planner.peaceBits) : planner.peaceBits;
    }

    public int would(int lamp, int what) {
        if (lamp != NONE && !town.lamps.has(lamp) || !isIn(what, 2)) {
            return NONE;
        }
        look();
        if (lamp == NONE) {
            return guesses.unrest();
        }
        guesses.findLiking(lamp);
        return what == 0 ? guesses.likedKinds[lamp] : guesses.likedMinutes[lamp];
    }

    public int soot(int lamp, int minute, int is) {
        if (!isIn(minute, MINUTES) || !isIn(is, 2)) {
            return refuse(SENSELESS);
        }
        if (!town.lamps.has(lamp)) {
            return refuse(MISSING);
        }
        if (town.soot.isFull()) {
            return refuse(FULL);
        }
        return change(town.soot.add(lamp, minute, is) + 1);
    }

    public int sweep() {
        int was = town.soot.size;
        town.soot.size = 0;
        changedSince = true;
        return was;
    }

    public int stranger(int i) {
        if (town.lamps.isFull() || i < NONE) {
            return NONE;
        }
        look();
        guesses.findStrangers();
        return guesses.strangers.pick(i);
    }

    public int changed(int i) {
        if (i < NONE) {
            return NONE;
        }
        look();
        guesses.findChanges();
        return guesses.changes.pick(i);
    }

    public int drunk(int seed, int kind, int corner, int n) {
        if (!isIn(seed, SEEDS + 1) || !isIn(kind, KINDS) || !isIn(corner, CORNERS) || n < 1 || n > DRUNK_MINUTES) {
            return refuse(SENSELESS);
        }
        look();
        streets.stagger(seed, corner, n, drawnPlaces);
        return grant(guesses.litWith(kind, drawnPlaces));
    }

    public int drawn(int minute) {
        return isIn(minute, MINUTES) && drawnPlaces[0] != NONE ? drawnPlaces[minute] : NONE;
    }

    public int image(int k) {
        if (!isIn(k, IMAGES)) {
            return refuse(SENSELESS);
        }
        Town kept = images[k];
        if (kept == null) {
            kept = new Town();
            images[k] = kept;
        }
        kept.become(town);
        return grant(0);
    }

    public int back(int k) {
        if (!isIn(k, IMAGES)) {
            return refuse(SENSELESS);
        }
        Town kept = images[k];
        if (kept == null) {
            return refuse(MISSING);
        }
        town.become(kept);
        rebuilt = true;
        return change(0);
    }

    public int count(int what) {
        switch (what) {
            case 0:
                return town.ways.size;
            case 1:
                return town.lamps.size;
            case 2:
                return town.switches.size;
            case 3:
                return town.lanterns.size;
            case 4:
                return town.errands.size;
            case 5:
                return town.lawCount;
            case 6:
                return town.soot.size;
            case 7:
                return taped;
            case 8:
            case 9:
            case 10:
            case 11:
            case 12:
                return refusals[what - 8];
            case 13:
                return town.force;
            case 14:
            case 15:
            case 16:
                return town.terms[what - 14];
            default:
                return NONE;
        }
    }

    public int status() {
        return lastStatus;
    }

    private static boolean isIn(int number, int bound) {
        return number >= 0 && number < bound;
    }

    private static boolean isFact(int what, int value) {
        switch (what) {
            case CORNER:
                return isIn(value, CORNERS);
            case KIND:
                return isIn(value, KINDS);
            case OIL_FULL:
                return value >= 1 && value <= OIL;
            default:
                return false;
        }
    }

    private static boolean areBits(int bits, int width, int most) {
        return bits > 0 && bits < 1 << width && Integer.bitCount(bits) <= most;
    }

    private static int countBit(int[] masks, int bit, int till) {
        int sum = 0;
        for (int minute = 0; minute <= till && minute < masks.length; minute++) {
            sum += masks[minute] >> bit & 1;
        }
        return sum;
    }

    private int refuse(int why) {
        lastStatus = why;
        // There is no -4: the two reasons behind it move up by one.
        int place = why >= BARRED ? -1 - why : -2 - why;
        if (place >= 0 && place < refusals.length) {
            refusals[place]++;
        }
        return why;
    }

    private int grant(int answer) {
        lastStatus = 0;
        return answer;
    }

    private int change(int answer) {
        changedSince = true;
        return grant(answer);
    }

    private void write(int four) {
        for (int shift = 24; shift >= 0 && taped < TAPE; shift -= 8) {
            tape[taped] = four >>> shift & 255;
            taped++;
        }
    }

    private int takeTape() {
        int length = taped;
        taped = 0;
        return length;
    }

    /** What was found out of the town is forgotten as soon as the town is another one. */
    private void look() {
        if (!changedSince) {
            return;
        }
        if (rebuilt) {
            streets.survey();
        }
        tempers.heed(rebuilt);
        nightly.load();
        chronicle.forget();
        guesses.forget();
        planner.forget();
        changedSince = false;
        rebuilt = false;
    }

    private int runClause(Text text, int clause, int before) {
        int times = text.part(clause, TIMES);
        int test = text.part(clause, TEST);
        int run = 0;
        for (int time = 0; time < times; time++) {
            int told = town.switches.size;
            machine.words[WORD_LAMPS] = town.lamps.size;
            machine.words[WORD_SWITCHES] = told;
            machine.words[WORD_LAST] = told == before ? NONE : town.switches.get(told - 1, WHEN);
            machine.words[WORD_DONE] = told - before;
            machine.words[WORD_RUN] = run;
            machine.words[WORD_WIND] = town.terms[WIND];
            if (test != NONE && machine.run(text.code, test) == 0) {
                continue;
            }
            int why = runOnce(text, clause, run);
            if (why != 0) {
                return why;
            }
            run++;
        }
        return 0;
    }

    private int runOnce(Text text, int clause, int run) {
        int lamp = machine.run(text.code, text.part(clause, FIRST));
        boolean broken = machine.broken;
        int at = machine.run(text.code, text.part(clause, AT));
        broken |= machine.broken;
        int each = 0;
        if (text.part(clause, EACH) != NONE) {
            each = machine.run(text.code, text.part(clause, EACH));
            broken |= machine.broken;
        }
        long minute = at + (long) each * run;
        if (broken || minute < 0 || minute >= MINUTES) {
            return BARRED;
        }
        int why = town.tell(lamp, (int) minute, text.part(clause, VERB) == LIGHT ? 1 : 0);
        return why == 0 || why == FULL ? why : BARRED;
    }

    /** Rows of numbers, as many as there is room for. */
    private static final class Table {
        final int room;
        final int width;
        final int[] cells;
        int size = 0;

        Table(int room, int width) {
            this.room = room;
            this.width = width;
            this.cells = new int[room * width];
        }

        boolean isFull() {
            return size >= room;
        }

        boolean has(int row) {
            return row >= 0 && row < size;
        }

        int get(int row, int column) {
            return row >= 0 && row < size && column >= 0 && column < width ? cells[row * width + column] : NONE;
        }

        /** Puts a number into a cell and answers what was there. */
        int swap(int row, int column, int value) {
            if (row < 0 || row >= size || column < 0 || column >= width) {
                return NONE;
            }
            int was = cells[row * width + column];
            cells[row * width + column] = value;
            return was;
        }

        /** A row with three numbers ahead and zeros behind them; its number. */
        int add(int a, int b, int c) {
            int start = size * width;
            if (size >= room || width < 3 || start + width > cells.length) {
                return NONE;
            }
            Arrays.fill(cells, start, start + width, 0);
            cells[start] = a;
            cells[start + 1] = b;
            cells[start + 2] = c;
            size++;
            return size - 1;
        }

        /** Puts one number behind the others of a table that is one number wide. */
        void list(int value) {
            if (width == 1 && size < cells.length) {
                cells[size] = value;
                size++;
            }
        }

        /** How many there are (NONE), the i-th one, NONE if there is none. */
        int pick(int i) {
            return i == NONE ? size : get(i, 0);
        }

        void become(Table other) {
            if (other.cells.length == cells.length) {
                System.arraycopy(other.cells, 0, cells, 0, cells.length);
                size = other.size;
            }
        }
    }

    /** All that images keep. */
    private static final class Town {
        final Table ways = new Table(WAYS, 3);
        final Table lamps = new Table(LAMPS, 3);
        final Table switches = new Table(SWITCHES, 3);
        final Table lanterns = new Table(LANTERNS, LANTERN_FIRST + GOES);
        final Table errands = new Table(ERRANDS, 3);
        final Table soot = new Table(SOOT, 3);
        final int[] terms = new int[TERMS];
        final Text[] laws = new Text[LAWS];
        int lawCount = 0;
        int force = NONE;

        Town() {
            terms[REST] = 3;
        }

        boolean isWay(int a, int b) {
            int lower = Math.min(a, b);
            int higher = Math.max(a, b);
            for (int way = 0; way < ways.size; way++) {
                if (ways.get(way, LOWER) == lower && ways.get(way, HIGHER) == higher) {
                    return true;
                }
            }
            return false;
        }

        /** A switch comes behind the others: 0, or by what that is refused. */
        int tell(int lamp, int minute, int on) {
            if (!isIn(minute, MINUTES) || !isIn(on, 2)) {
                return SENSELESS;
            }
            if (!lamps.has(lamp)) {
                return MISSING;
            }
            return switches.add(lamp, minute, on) == NONE ? FULL : 0;
        }

        int keepLaw(Text text) {
            if (lawCount >= LAWS) {
                return NONE;
            }
            laws[lawCount] = text;
            lawCount++;
            return lawCount - 1;
        }

        Text lawInForce() {
            return isIn(force, lawCount) && force < LAWS ? laws[force] : null;
        }

        void become(Town other) {
            ways.become(other.ways);
            lamps.become(other.lamps);
            switches.become(other.switches);
            lanterns.become(other.lanterns);
            errands.become(other.errands);
            soot.become(other.soot);
            System.arraycopy(other.terms, 0, terms, 0, TERMS);
            for (int law = 0; law < LAWS; law++) {
                laws[law] = other.laws[law];
            }
            lawCount = other.lawCount;
            force = other.force;
        }
    }

    /** A text that was read: instructions for the machine, and where each clause's parts begin. */
    private static final class Text {
        final int[] code;
        final int[] clauses;
        final int size;
        /** For each verb the words in its clauses, as bits. */
        final int[] used;

        Text(int[] code, int[] clauses, int size, int[] used) {
            this.code = code;
            this.clauses = clauses;
            this.size = size;
            this.used = used;
        }

        int part(int clause, int column) {
            int place = clause * CLAUSE_WIDTH + column;
            return place >= 0 && place < clauses.length ? clauses[place] : NONE;
        }
    }

    /** Reads the texts of both languages; wherever reading fails, it stands at the fault. */
    private static final class Reader {
        private static final String KEYWORDS =
            "lamp kind other near later minute wind mood lamps switches last done run shuns reaches drinks light snuff at each times if or and not";
        private static final int WORD_OF_SHUNS = 13;
        private static final int WORD_OF_LIGHT = 16;
        private static final int WORD_OF_AT = 18;
        private static final int WORD_OF_EACH = 19;
        private static final int WORD_OF_TIMES = 20;
        private static final int WORD_OF_IF = 21;
        private static final int WORD_OF_OR = 22;
        private static final int WORD_OF_AND = 23;
        private static final int WORD_OF_NOT = 24;
        private static final int UNKNOWN = 98;
        private static final int THE_END = 99;
        private static final int SIGNS = 100;
        private static final int NUMBERS = 1000;
        private static final int HIGHEST = 1000;
        private static final int MOST_TIMES = 20;
        private static final int PARTS = 50;
        private static final int BRACKETS = 8;
        private static final int LAW_WORDS = 255;
        private static final int ROUND_WORDS = 31 << WORD_LAMPS | 1 << WORD_WIND;
        private static final int CODE_ROOM = 500;

        int fault = NONE;
        private final int[] tokens = new int[TAPE + 1];
        private final int[] starts = new int[TAPE + 1];
        private final int[] code = new int[CODE_ROOM];
        private final int[] clauses = new int[CLAUSES * CLAUSE_WIDTH];
        private final int[] used = new int[VERBS];
        private int at = 0;
        private int coded = 0;
        private int parts = 0;
        private int allowed = 0;
        private int words = 0;

        /** The text, or null with a fault. */
        Text read(int[] tape, int length, boolean isLaw) {
            split(tape, length);
            Arrays.fill(clauses, NONE);
            Arrays.fill(used, 0);
            at = 0;
            coded = 0;
            parts = 0;
            allowed = isLaw ? LAW_WORDS : ROUND_WORDS;
            for (int clause = 0; clause < CLAUSES; clause++) {
                words = 0;
                int columns = clause * CLAUSE_WIDTH;
                if (!(isLaw ? readLaw(columns) : readRound(columns)) || !readIf(columns)) {
                    break;
                }
                used[clauses[columns + VERB]] |= words;
                if (tokens[at] == THE_END) {
                    fault = NONE;
                    return new Text(Arrays.copyOf(code, coded), Arrays.copyOf(clauses, columns + CLAUSE_WIDTH),
                        clause + 1, used.clone());
                }
                if (tokens[at] != SIGNS + ';') {
                    break;
                }
                at++;
            }
            fault = starts[at];
            return null;
        }

        private void split(int[] tape, int length) {
            int found = 0;
            int place = 0;
            for (int turns = 0; turns < TAPE && place < length; turns++) {
                int start = place;
                int kind = kindOf(tape[place]);
                place++;
                while (kind > 1 && place < length && kindOf(tape[place]) == kind) {
                    place++;
                }
                if (kind == 0) {
                    continue;
                }
                starts[found] = start;
                tokens[found] = kind == 1 ? SIGNS + tape[start]
                    : kind == 2 ? numberIn(tape, start, place) : wordIn(tape, start, place);
                found++;
            }
            tokens[found] = THE_END;
            starts[found] = length;
        }

        /** 0 a blank, 1 a sign alone, 2 a digit, 3 a letter. */
        private static int kindOf(int sign) {
            if (sign == ' ') {
                return 0;
            }
            return sign >= '0' && sign <= '9' ? 2 : sign >= 'a' && sign <= 'z' ? 3 : 1;
        }

        private static int numberIn(int[] tape, int from, int till) {
            int value = 0;
            for (int i = from; i < till; i++) {
                value = Math.min(value * 10 + tape[i] - '0', HIGHEST + 1);
            }
            return NUMBERS + value;
        }

        private static int wordIn(int[] tape, int from, int till) {
            int word = 0;
            int matched = 0;
            // A word that was unlike is marked by a row that no token is long enough for.
            for (int i = 0; i <= KEYWORDS.length(); i++) {
                if (i == KEYWORDS.length() || KEYWORDS.charAt(i) == ' ') {
                    if (matched == till - from) {
                        return word;
                    }
                    word++;
                    matched = 0;
                } else if (matched < till - from && KEYWORDS.charAt(i) == tape[from + matched]) {
                    matched++;
                } else {
                    matched = TAPE + 1;
                }
            }
            return UNKNOWN;
        }

        private boolean readLaw(int clause) {
            int verb = tokens[at] - WORD_OF_SHUNS;
            if (verb < SHUNS || verb > DRINKS) {
                return false;
            }
            clauses[clause + VERB] = verb;
            at++;
            if (verb != SHUNS) {
                clauses[clause + FIRST] = coded;
                if (!readSum(0)) {
                    return false;
                }
                emit(OP_END, 0);
            }
            return true;
        }

        private boolean readRound(int clause) {
            int verb = tokens[at] - WORD_OF_LIGHT;
            if (verb != 0 && verb != 1) {
                return false;
            }
            clauses[clause + VERB] = LIGHT + verb;
            for (int column = FIRST; column <= EACH; column++) {
                if (column == EACH && tokens[at] != WORD_OF_EACH) {
                    break;
                }
                if (column == AT && tokens[at] != WORD_OF_AT) {
                    return false;
                }
                at++;
                clauses[clause + column] = coded;
                if (!readSum(0)) {
                    return false;
                }
                emit(OP_END, 0);
            }
            clauses[clause + TIMES] = 1;
            if (tokens[at] == WORD_OF_TIMES) {
                at++;
                if (tokens[at] <= NUMBERS || tokens[at] > NUMBERS + MOST_TIMES) {
                    return false;
                }
                clauses[clause + TIMES] = tokens[at] - NUMBERS;
                at++;
            }
            return true;
        }

        private boolean readIf(int clause) {
            if (tokens[at] != WORD_OF_IF) {
                return true;
            }
            at++;
            clauses[clause + TEST] = coded;
            if (!readTest(0)) {
                return false;
            }
            emit(OP_END, 0);
            return true;
        }

        private boolean readTest(int depth) {
            int orJump = NONE;
            for (int ors = 0; ors < TAPE; ors++) {
                int andJump = NONE;
                for (int ands = 0; ands < TAPE; ands++) {
                    if (!readPlain(depth)) {
                        return false;
                    }
                    if (tokens[at] != WORD_OF_AND) {
                        break;
                    }
                    at++;
                    aim(andJump);
                    andJump = emit(OP_AND, 0);
                }
                aim(andJump);
                if (tokens[at] != WORD_OF_OR) {
                    break;
                }
                at++;
                aim(orJump);
                orJump = emit(OP_OR, 0);
            }
            aim(orJump);
            return true;
        }

        private boolean readPlain(int depth) {
            boolean isTurned = false;
            for (int nots = 0; nots < TAPE && tokens[at] == WORD_OF_NOT; nots++) {
                isTurned = !isTurned;
                at++;
            }
            if (tokens[at] == SIGNS + '(') {
                if (depth >= BRACKETS) {
                    return false;
                }
                at++;
                if (!readTest(depth + 1) || tokens[at] != SIGNS + ')') {
                    return false;
                }
                at++;
            } else {
                if (!readSum(depth)) {
                    return false;
                }
                int sign = tokens[at] - SIGNS;
                if (sign != '<' && sign != '>' && sign != '=') {
                    return false;
                }
                at++;
                if (!readSum(depth)) {
                    return false;
                }
                emit(sign == '<' ? OP_LESS : sign == '>' ? OP_MORE : OP_SAME, 0);
            }
            if (isTurned) {
                emit(OP_NOT, 0);
            }
            return true;
        }

        private boolean readSum(int depth) {
            int joining = OP_END;
            for (int terms = 0; terms < TAPE; terms++) {
                int scaling = OP_END;
                for (int factors = 0; factors < TAPE; factors++) {
                    if (!readPart(depth)) {
                        return false;
                    }
                    if (scaling != OP_END) {
                        emit(scaling, 0);
                    }
                    int sign = tokens[at] - SIGNS;
                    if (sign != '*' && sign != '/' && sign != '%') {
                        break;
                    }
                    scaling = sign == '*' ? OP_MULTIPLY : sign == '/' ? OP_DIVIDE : OP_REMAIN;
                    at++;
                }
                if (joining != OP_END) {
                    emit(joining, 0);
                }
                int sign = tokens[at] - SIGNS;
                if (sign != '+' && sign != '-') {
                    break;
                }
                joining = sign == '+' ? OP_ADD : OP_SUBTRACT;
                at++;
            }
            return true;
        }

        private boolean readPart(int depth) {
            int token = tokens[at];
            if (token == SIGNS + '[') {
                if (depth >= BRACKETS) {
                    return false;
                }
                at++;
                if (!readSum(depth + 1) || tokens[at] != SIGNS + ']') {
                    return false;
                }
                at++;
                return true;
            }
            boolean isNumber = token >= NUMBERS && token <= NUMBERS + HIGHEST;
            boolean isWord = token < WORDS && (allowed >> token & 1) != 0;
            if (!isNumber && !isWord || parts >= PARTS) {
                return false;
            }
            if (isNumber) {
                emit(OP_NUMBER, token - NUMBERS);
            } else {
                emit(OP_WORD, token);
                words |= 1 << token;
            }
            parts++;
            at++;
            return true;
        }

        private int emit(int op, int number) {
            if (coded >= CODE_ROOM) {
                return NONE;
            }
            code[coded] = op | number << OP_BITS;
            coded++;
            return coded - 1;
        }

        /**
         * A jump goes to what comes next. In a chain each goes to the next jump of its kind, which goes on,
         * since what is on the stack is still the same.
         */
        private void aim(int jump) {
            if (jump >= 0 && jump < CODE_ROOM) {
                code[jump] |= coded << OP_BITS;
            }
        }
    }

    /** Runs what the reader wrote, over the words' numbers. */
    private static final class Machine {
        private static final int DEEPEST = 120;
        private static final int LONGEST = 1000;
        private static final long LIMIT = 1000000000L;

        final int[] words = new int[WORDS];
        boolean broken = false;
        private final int[] stack = new int[DEEPEST];

        /** The number, or 1 or 0 of a test; 0 if it is broken. */
        int run(int[] code, int start) {
            int at = start;
            int top = 0;
            broken = false;
            for (int turns = 0; turns < LONGEST && at >= 0 && at < code.length; turns++) {
                int op = code[at] & OP_MASK;
                int told = code[at] >> OP_BITS;
                at++;
                if (op == OP_NUMBER || op == OP_WORD) {
                    if (top >= DEEPEST || op == OP_WORD && told >= WORDS) {
                        break;
                    }
                    stack[top] = op == OP_NUMBER ? told : words[told];
                    top++;
                } else if (top == 0 || op == OP_END) {
                    return top == 1 ? stack[0] : 0;
                } else if (op == OP_NOT) {
                    stack[top - 1] = 1 - stack[top - 1];
                } else if (op == OP_OR || op == OP_AND) {
                    if ((stack[top - 1] != 0) == (op == OP_OR)) {
                        at = told;
                    } else {
                        top--;
                    }
                } else {
                    long b = stack[top - 1];
                    if (top < 2 || b == 0 && (op == OP_DIVIDE || op == OP_REMAIN)) {
                        break;
                    }
                    top--;
                    long a = stack[top - 1];
                    long value;
                    switch (op) {
                        case OP_ADD: value = a + b; break;
                        case OP_SUBTRACT: value = a - b; break;
                        case OP_MULTIPLY: value = a * b; break;
                        case OP_DIVIDE: value = a / b; break;
                        case OP_REMAIN: value = a % b; break;
                        case OP_LESS: value = a < b ? 1 : 0; break;
                        case OP_MORE: value = a > b ? 1 : 0; break;
                        default: value = a == b ? 1 : 0; break;
                    }
                    if (value > LIMIT || value < -LIMIT) {
                        break;
                    }
                    stack[top - 1] = (int) value;
                }
            }
            broken = true;
            return 0;
        }
    }

    /** How far all corners are from one another, the lighter's round and a drunk's way. */
    private static final class Streets {
        private static final int NEVER = 1000000;
        private static final int REACH = 10;

        /** The corners next to each one by ways, by ways that are not shuttered, as bits. */
        final int[] beside = new int[CORNERS];
        final int[] open = new int[CORNERS];
        int roundSteps = NONE;
        final int[] roundRow = new int[LAMPS];
        private final Town town;
        private final int[] stepsTo = new int[CORNERS * CORNERS];
        private final int[] sightTo = new int[CORNERS * CORNERS];
        /** For each corner and reach the corners within, as bits; NONE: not looked at yet. */
        private final int[] balls = new int[CORNERS * REACH];
        /** The corners that have lamps, each once, and for each lamp which of these is its own. */
        private final int[] stops = new int[LAMPS];
        private final int[] stopOf = new int[LAMPS];
        private int stopCount = 0;
        /** For a set of stops (as bits) and the stop one is at: the fewest steps to all of the set. */
        private int[] costs = null;
        private boolean isCosted = false;
        private int roundFrom = NONE;

        Streets(Town town) {
            this.town = town;
        }

        void survey() {
            Arrays.fill(beside, 0);
            Arrays.fill(open, 0);
            for (int way = 0; way < town.ways.size; way++) {
                int a = town.ways.get(way, LOWER);
                int b = town.ways.get(way, HIGHER);
                beside[a] |= 1 << b;
                beside[b] |= 1 << a;
                if (town.ways.get(way, IS_SHUTTERED) == 0) {
                    open[a] |= 1 << b;
                    open[b] |= 1 << a;
                }
            }
            for (int corner = 0; corner < CORNERS; corner++) {
                spread(beside, corner, stepsTo, corner * CORNERS);
                spread(open, corner, sightTo, corner * CORNERS);
            }
            Arrays.fill(balls, NONE);
            isCosted = false;
            roundFrom = NONE;
        }

        /** How far all corners are from one, by the corners next to each; NONE if one can't come there. */
        static void spread(int[] next, int from, int[] distances, int start) {
            if (start < 0 || start + CORNERS > distances.length || from < 0 || from >= CORNERS) {
                return;
            }
            Arrays.fill(distances, start, start + CORNERS, NONE);
            int seen = 1 << from;
            int edge = seen;
            for (int distance = 0; distance < CORNERS && edge != 0; distance++) {
                int reached = 0;
                for (int corner = 0; corner < CORNERS; corner++) {
                    if ((edge >> corner & 1) != 0) {
                        distances[start + corner] = distance;
                        reached |= next[corner];
                    }
                }
                edge = reached & ~seen;
                seen |= edge;
            }
        }

        int steps(int a, int b) {
            return isIn(a, CORNERS) && isIn(b, CORNERS) ? stepsTo[a * CORNERS + b] : NONE;
        }

        int sight(int a, int b) {
            return isIn(a, CORNERS) && isIn(b, CORNERS) ? sightTo[a * CORNERS + b] : NONE;
        }

        /** The corners to which sight is no farther, as bits. */
        int within(int corner, int reach) {
            if (!isIn(corner, CORNERS) || !isIn(reach, REACH)) {
                return 0;
            }
            int place = corner * REACH + reach;
            if (balls[place] == NONE) {
                int bits = 0;
                for (int other = 0; other < CORNERS; other++) {
                    int far = sight(corner, other);
                    if (far != NONE && far <= reach) {
                        bits |= 1 << other;
                    }
                }
                balls[place] = bits;
            }
            return balls[place];
        }

        /** Some corners, as bits, and all that are next to them by a way. */
        int around(int bits) {
            int all = bits;
            for (int corner = 0; corner < CORNERS; corner++) {
                if ((bits >> corner & 1) != 0) {
                    all |= beside[corner];
                }
            }
            return all;
        }

        /** A drunk's place in each minute. */
        void stagger(int seed, int corner, int goes, int[] places) {
            long s = seed;
            int at = corner;
            for (int minute = 0; minute < MINUTES && minute < places.length; minute++) {
                if (minute >= 1 && minute <= goes) {
                    s = (s * 1103 + 12345) % 1000003;
                    at = leave(at, (int) (s % (Integer.bitCount(beside[at]) + 1)));
                }
                places[minute] = at;
            }
        }

        /** Where the n-th way of a corner leads, by rising numbers of the ways; there itself for 0. */
        private int leave(int corner, int n) {
            int left = n;
            for (int way = 0; way < town.ways.size && left > 0; way++) {
                int a = town.ways.get(way, LOWER);
                int b = town.ways.get(way, HIGHER);
                if (a == corner || b == corner) {
                    left--;
                    if (left == 0) {
                        return a == corner ? b : a;
                    }
                }
            }
            return corner;
        }

        void findRound(int corner) {
            if (roundFrom == corner) {
                return;
            }
            roundFrom = corner;
            roundSteps = NONE;
            for (int lamp = 0; lamp < town.lamps.size; lamp++) {
                if (steps(corner, town.lamps.get(lamp, CORNER)) == NONE) {
                    return;
                }
            }
            if (!isCosted) {
                gatherStops();
                fillCosts();
                isCosted = true;
            }
            roundSteps = rest(corner, stopsOf((1 << town.lamps.size) - 1));
            layRow(corner);
        }

        private void gatherStops() {
            stopCount = 0;
            for (int lamp = 0; lamp < town.lamps.size; lamp++) {
                int corner = town.lamps.get(lamp, CORNER);
                int stop = 0;
                while (stop < stopCount && stops[stop] != corner) {
                    stop++;
                }
                if (stop == stopCount) {
                    stops[stopCount] = corner;
                    stopCount++;
                }
                stopOf[lamp] = stop;
            }
        }

        /** Called only if one can come to all stops, so to each from each. */
        private void fillCosts() {
            if (costs == null) {
                costs = new int[LAMPS << LAMPS];
            }
            for (int set = 0; set < 1 << stopCount; set++) {
                for (int stop = 0; stop < stopCount; stop++) {
                    costs[set * LAMPS + stop] = rest(stops[stop], set);
                }
            }
        }

        /** The fewest steps from a corner to a set of stops, by the costs of the smaller sets. */
        private int rest(int corner, int set) {
            int fewest = set == 0 ? 0 : NEVER;
            for (int stop = 0; stop < stopCount; stop++) {
                if ((set >> stop & 1) != 0) {
                    int onwards = costs[(set ^ 1 << stop) * LAMPS + stop];
                    fewest = Math.min(fewest, steps(corner, stops[stop]) + onwards);
                }
            }
            return fewest;
        }

        private int stopsOf(int lamps) {
            int set = 0;
            for (int lamp = 0; lamp < town.lamps.size; lamp++) {
                if ((lamps >> lamp & 1) != 0) {
                    set |= 1 << stopOf[lamp];
                }
            }
            return set;
        }

        /** The first row of lamps: always the lowest one by which the rest is still as short as can be. */
        private void layRow(int corner) {
            int at = corner;
            int due = roundSteps;
            int lamps = (1 << town.lamps.size) - 1;
            for (int place = 0; place < town.lamps.size; place++) {
                for (int lamp = 0; lamp < town.lamps.size; lamp++) {
                    int next = town.lamps.get(lamp, CORNER);
                    int step = steps(at, next);
                    if ((lamps >> lamp & 1) != 0 && step + rest(next, stopsOf(lamps ^ 1 << lamp)) == due) {
                        roundRow[place] = lamp;
                        lamps ^= 1 << lamp;
                        due -= step;
                        at = next;
                        break;
                    }
                }
            }
        }
    }

    /** What lamps and lanterns are like by the law in force. */
    private static final class Tempers {
        private static final int MEMO_BITS = 12;
        private static final int KEY_BITS = 25;
        private static final int ANSWER_BITS = 4;
        private static final int LEAST = 0;
        private static final int MOST = 9;

        private final Town town;
        private final Machine machine;
        private final Streets streets;
        private Text law = null;
        private int wind = 0;
        private int mood = 0;
        /** Answers found by the law, wind and mood of a generation: generation, question and answer in one. */
        private final long[] memo = new long[1 << MEMO_BITS];
        private long generation = 1;
        /**
         * For the town's own lamps, by minutes, if the law looks at those (else for all at 0); NONE: not asked yet.
         * Whom a lamp shuns, if it burns since later (1) or not (0), as bits; who shuns a lantern of a kind at a
         * corner, as bits; what a lamp drinks.
         */
        private final int[] hates = new int[MINUTES * 2 * LAMPS];
        private final int[] fears = new int[MINUTES * KINDS * CORNERS];
        private final int[] thirsts = new int[MINUTES * LAMPS];

        Tempers(Town town, Machine machine, Streets streets) {
            this.town = town;
            this.machine = machine;
            this.streets = streets;
        }

        void heed(boolean isRebuilt) {
            Text now = town.lawInForce();
            boolean isOther = now != law || wind != town.terms[WIND] || mood != town.terms[MOOD];
            if (isOther) {
                law = now;
                wind = town.terms[WIND];
                mood = town.terms[MOOD];
                generation++;
            }
            if (isOther || isRebuilt) {
                int minutes = heeds(SHUNS, WORD_MINUTE) ? MINUTES : 1;
                Arrays.fill(hates, 0, minutes * 2 * LAMPS, NONE);
                Arrays.fill(fears, 0, minutes * KINDS * CORNERS, NONE);
                Arrays.fill(thirsts, 0, heeds(DRINKS, WORD_MINUTE) ? MINUTES * LAMPS : LAMPS, NONE);
            }
        }

        /** Whether an answer may be another one for another number of a word. */
        boolean heeds(int what, int word) {
            return law != null && (law.used[what] >> word & 1) != 0;
        }

        int hated(int lamp, int later, int minute) {
            int place = ((heeds(SHUNS, WORD_MINUTE) ? minute : 0) * 2 + later) * LAMPS + lamp;
            if (hates[place] == NONE) {
                int bits = 0;
                for (int other = 0; other < town.lamps.size; other++) {
                    int near = streets.sight(town.lamps.get(lamp, CORNER), town.lamps.get(other, CORNER));
                    if (other != lamp && ask(SHUNS, lamp, town.lamps.get(lamp, KIND), town.lamps.get(other, KIND),
                            near, later, minute) != 0) {
                        bits |= 1 << other;
                    }
                }
                hates[place] = bits;
            }
            return hates[place];
        }

        int fearful(int kind, int corner, int minute) {
            int place = ((heeds(SHUNS, WORD_MINUTE) ? minute : 0) * KINDS + kind) * CORNERS + corner;
            if (fears[place] == NONE) {
                int bits = 0;
                for (int lamp = 0; lamp < town.lamps.size; lamp++) {
                    int near = streets.sight(town.lamps.get(lamp, CORNER), corner);
                    if (ask(SHUNS, lamp, town.lamps.get(lamp, KIND), kind, near, 1, minute) != 0) {
                        bits |= 1 << lamp;
                    }
                }
                fears[place] = bits;
            }
            return fears[place];
        }

        int thirst(int lamp, int minute) {
            int place = (heeds(DRINKS, WORD_MINUTE) ? minute : 0) * LAMPS + lamp;
            if (thirsts[place] == NONE) {
                thirsts[place] = ask(DRINKS, lamp, town.lamps.get(lamp, KIND), NONE, NONE, NONE, minute);
            }
            return thirsts[place];
        }

        /**
         * Whether one shuns another (1, 0), how far it reaches, what it drinks: by the last clause that holds;
         * for who shuns whom any one does.
         */
        int ask(int what, int lamp, int kind, int other, int near, int later, int minute) {
            if (law == null) {
                return what != SHUNS || kind == other && (near == 0 || near == 1) ? 1 : 0;
            }
            int[] words = machine.words;
            words[WORD_LAMP] = lamp;
            words[WORD_KIND] = kind;
            words[WORD_OTHER] = other;
            words[WORD_NEAR] = near;
            words[WORD_LATER] = later;
            words[WORD_MINUTE] = minute;
            words[WORD_WIND] = wind;
            words[WORD_MOOD] = mood;
            int key = keyOf(what);
            int place = key * 0x9E3779B1 >>> 32 - MEMO_BITS;
            long question = generation << KEY_BITS | key;
            if (memo[place] >>> ANSWER_BITS == question) {
                return (int) memo[place] & (1 << ANSWER_BITS) - 1;
            }
            int answer = what == SHUNS ? 0 : 1;
            for (int clause = law.size - 1; clause >= 0; clause--) {
                int test = law.part(clause, TEST);
                if (law.part(clause, VERB) != what || test != NONE && machine.run(law.code, test) == 0) {
                    continue;
                }
                int value = what == SHUNS ? 1 : machine.run(law.code, law.part(clause, FIRST));
                if (what == SHUNS || !machine.broken) {
                    answer = Math.max(LEAST, Math.min(MOST, value));
                    break;
                }
            }
            memo[place] = question << ANSWER_BITS | answer;
            return answer;
        }

        /** The words' numbers in one. A word that the clauses don't have can't make another question of it. */
        private int keyOf(int what) {
            int[] words = machine.words;
            int used = law.used[what];
            int key = what * 12 + ((used >> WORD_LAMP & 1) != 0 ? words[WORD_LAMP] + 1 : 0);
            key = key * 8 + ((used >> WORD_KIND & 1) != 0 ? words[WORD_KIND] : 0);
            key = key * 8 + ((used >> WORD_OTHER & 1) != 0 ? words[WORD_OTHER] + 1 : 0);
            key = key * 16 + ((used >> WORD_NEAR & 1) != 0 ? words[WORD_NEAR] + 1 : 0);
            key = key * 4 + ((used >> WORD_LATER & 1) != 0 ? words[WORD_LATER] + 1 : 0);
            return key * 128 + ((used >> WORD_MINUTE & 1) != 0 ? words[WORD_MINUTE] : 0);
        }
    }

    /** A night that is run minute by minute, with one lamp, one lantern more or another kind, if so told. */
    private static final class Night {
        int lamps = 0;
        final int[] corners = new int[LAMPS];
        final int[] kinds = new int[LAMPS];
        final int[] oil = new int[LAMPS];
        /** The minute since which a lamp burns, or in which one that waits went out. */
        final int[] since = new int[LAMPS];
        /** Lamps that burn, that burn since this minute only, that went out in it, as bits. */
        int burning = 0;
        int fresh = 0;
        int gone = 0;
        int lanterns = 0;
        final int[] lanternKinds = new int[LANTERNS + 1];
        /** For each lantern its corner in each minute, NONE ahead of its first. */
        final int[] places = new int[(LANTERNS + 1) * MINUTES];
        private final Town town;
        private final Streets streets;
        private final Tempers tempers;
        /** Lamps that went out and will burn again, as bits. */
        private int waiting = 0;
        /** The lamp that is not as the town has it, or NONE. */
        private int special = NONE;
        private final int[] firstSwitch = new int[MINUTES];
        private final int[] nextSwitch = new int[SWITCHES];
        private final int[] shunned = new int[LAMPS];
        private final int[] kept = new int[2 * LAMPS + 2];

        Night(Town town, Streets streets, Tempers tempers) {
            this.town = town;
            this.streets = streets;
            this.tempers = tempers;
        }

        void load() {
            for (int lamp = 0; lamp < town.lamps.size; lamp++) {
                corners[lamp] = town.lamps.get(lamp, CORNER);
                kinds[lamp] = town.lamps.get(lamp, KIND);
            }
            Arrays.fill(firstSwitch, NONE);
            for (int i = town.switches.size - 1; i >= 0; i--) {
                int minute = town.switches.get(i, WHEN);
                nextSwitch[i] = firstSwitch[minute];
                firstSwitch[minute] = i;
            }
            for (int lantern = 0; lantern < town.lanterns.size; lantern++) {
                lanternKinds[lantern] = town.lanterns.get(lantern, LANTERN_KIND);
                for (int minute = 0; minute < MINUTES; minute++) {
                    places[lantern * MINUTES + minute] = placeOf(lantern, minute);
                }
            }
            dismiss();
        }

        private int placeOf(int lantern, int minute) {
            int minutes = minute - town.lanterns.get(lantern, LANTERN_FROM);
            int goes = Math.min(minutes, town.lanterns.get(lantern, LANTERN_GOES));
            if (goes < 0) {
                return NONE;
            }
            return town.lanterns.get(lantern, goes == 0 ? LANTERN_CORNER : LANTERN_FIRST + goes - 1);
        }

        /** One lamp more, on from the beginning. */
        void invite(int corner, int kind) {
            int guest = town.lamps.size;
            if (guest < LAMPS) {
                corners[guest] = corner;
                kinds[guest] = kind;
                lamps = guest + 1;
                special = guest;
            }
        }

        /** A lamp of another kind, perhaps. */
        void disguise(int lamp, int kind) {
            kinds[lamp] = kind;
            special = kind == town.lamps.get(lamp, KIND) ? NONE : lamp;
        }

        /** One lantern more; its corner in each minute. */
        void carry(int kind, int[] corners) {
            int start = town.lanterns.size * MINUTES;
            lanternKinds[town.lanterns.size] = kind;
            System.arraycopy(corners, 0, places, start, MINUTES);
            lanterns = town.lanterns.size + 1;
        }

        /** All is as the town has it. */
        void dismiss() {
            if (special != NONE && special < town.lamps.size) {
                kinds[special] = town.lamps.get(special, KIND);
            }
            special = NONE;
            lamps = town.lamps.size;
            lanterns = town.lanterns.size;
        }

        void restart() {
            for (int lamp = 0; lamp < lamps; lamp++) {
                oil[lamp] = lamp < town.lamps.size ? town.lamps.get(lamp, OIL_FULL) : OIL;
                since[lamp] = 0;
            }
            burning = lamps > town.lamps.size ? 1 << town.lamps.size : 0;
            fresh = burning;
            waiting = 0;
            gone = 0;
        }

        /** What is so between two minutes is kept; recall() goes back to it. */
        void keep() {
            System.arraycopy(oil, 0, kept, 0, LAMPS);
            System.arraycopy(since, 0, kept, LAMPS, LAMPS);
            kept[2 * LAMPS] = burning;
            kept[2 * LAMPS + 1] = waiting;
        }

        void recall() {
            System.arraycopy(kept, 0, oil, 0, LAMPS);
            System.arraycopy(kept, LAMPS, since, 0, LAMPS);
            burning = kept[2 * LAMPS];
            waiting = kept[2 * LAMPS + 1];
            fresh = 0;
        }

        /** Runs a minute: the lamps that are lit in it, as bits. */
        int step(int minute) {
            prepare(minute);
            int leaving = 0;
            // Where nobody new came, all go on as in the minute before.
            if (stirredLamps() != 0 || movedLanterns(minute) != 0) {
                leaving = fleeing(minute);
                for (int lamp = 0; lamp < lamps; lamp++) {
                    shunned[lamp] = (burning >> lamp & 1) == 0 ? 0 : shunnedBy(lamp, minute);
                }
                for (int lamp = 0; lamp < lamps; lamp++) {
                    if (shunned[lamp] != 0 && yields(lamp)) {
                        leaving |= 1 << lamp;
                    }
                }
            }
            return finish(minute, leaving);
        }

        /** Switches, and lamps that had gone out and burn again. */
        void prepare(int minute) {
            int told = firstSwitch[minute];
            for (int turns = 0; turns < SWITCHES && told != NONE; turns++) {
                int lamp = town.switches.get(told, WHOSE);
                if (town.switches.get(told, IS_ON) == 0) {
                    burning &= ~(1 << lamp);
                    waiting &= ~(1 << lamp);
                } else if (oil[lamp] > 0) {
                    kindle(lamp, minute);
                }
                told = nextSwitch[told];
            }
            for (int lamp = 0; lamp < lamps && waiting != 0; lamp++) {
                if ((waiting >> lamp & 1) != 0 && minute - since[lamp] >= town.terms[REST]) {
                    kindle(lamp, minute);
                }
            }
        }

        private void kindle(int lamp, int minute) {
            burning |= 1 << lamp;
            fresh |= 1 << lamp;
            waiting &= ~(1 << lamp);
            since[lamp] = minute;
        }

        /** Lamps that burn since this minute, as bits; all that burn, if the law looks at the minute. */
        int stirredLamps() {
            return tempers.heeds(SHUNS, WORD_MINUTE) ? burning : fresh & burning;
        }

        /** Lanterns that were not where they are in the minute before, as bits; all, if the law looks at the minute. */
        int movedLanterns(int minute) {
            int moved = 0;
            for (int lantern = 0; lantern < lanterns; lantern++) {
                int place = places[lantern * MINUTES + minute];
                int before = minute == 0 ? NONE : places[lantern * MINUTES + minute - 1];
                if (place != NONE && (place != before || tempers.heeds(SHUNS, WORD_MINUTE))) {
                    moved |= 1 << lantern;
                }
            }
            return moved;
        }

        /** Lamps that burn and shun a lantern, as bits. */
        private int fleeing(int minute) {
            int bits = 0;
            for (int lantern = 0; lantern < lanterns; lantern++) {
                int place = places[lantern * MINUTES + minute];
                if (place == NONE) {
                    continue;
                }
                int kind = lanternKinds[lantern];
                int fearful = tempers.fearful(kind, place, minute);
                if (special != NONE) {
                    int near = streets.sight(corners[special], place);
                    fearful &= ~(1 << special);
                    fearful |= tempers.ask(SHUNS, special, kinds[special], kind, near, 1, minute) << special;
                }
                bits |= fearful & burning;
            }
            return bits;
        }

        /** Lamps that burn and that a lamp shuns, as bits. */
        private int shunnedBy(int lamp, int minute) {
            int unknown = special == NONE ? 0 : lamp == special ? burning & ~(1 << lamp) : burning & 1 << special;
            int known = burning & ~unknown & ~(1 << lamp);
            int bits = 0;
            if (known != 0) {
                int older = tempers.heeds(SHUNS, WORD_LATER) ? olderThan(lamp) : 0;
                bits = tempers.hated(lamp, 0, minute) & known & ~older;
                if (older != 0) {
                    bits |= tempers.hated(lamp, 1, minute) & known & older;
                }
            }
            for (int other = 0; other < lamps && unknown != 0; other++) {
                if ((unknown >> other & 1) == 0) {
                    continue;
                }
                int near = streets.sight(corners[lamp], corners[other]);
                int later = since[lamp] > since[other] ? 1 : 0;
                bits |= tempers.ask(SHUNS, lamp, kinds[lamp], kinds[other], near, later, minute) << other;
            }
            return bits;
        }

        private int olderThan(int lamp) {
            int bits = 0;
            for (int other = 0; other < lamps; other++) {
                if (since[lamp] > since[other]) {
                    bits |= 1 << other;
                }
            }
            return bits;
        }

        /** Whether a lamp goes out for the sake of one that it shuns and that does not so itself. */
        private boolean yields(int lamp) {
            for (int other = 0; other < lamps; other++) {
                if ((shunned[lamp] >> other & 1) != 0
                        && ((shunned[other] >> lamp & 1) == 0 || !cameLater(other, lamp))) {
                    return true;
                }
            }
            return false;
        }

        private boolean cameLater(int lamp, int other) {
            return since[lamp] > since[other] || since[lamp] == since[other] && lamp > other;
        }

        /** Some lamps go out, the others are lit and drink. */
        int finish(int minute, int leaving) {
            gone = leaving;
            waiting |= leaving;
            burning &= ~leaving;
            fresh = 0;
            int lit = burning;
            for (int lamp = 0; lamp < lamps; lamp++) {
                if ((leaving >> lamp & 1) != 0) {
                    since[lamp] = minute;
                }
                if ((lit >> lamp & 1) == 0) {
                    continue;
                }
                int thirst = lamp == special ? tempers.ask(DRINKS, lamp, kinds[lamp], NONE, NONE, NONE, minute)
                    : tempers.thirst(lamp, minute);
                oil[lamp] = Math.max(0, oil[lamp] - thirst);
                if (oil[lamp] == 0) {
                    burning &= ~(1 << lamp);
                }
            }
            return lit;
        }
    }

    /** The night as it is, and who can go where in its light. */
    private static final class Chronicle {
        /** For each minute the lamps that are lit, that go out, as bits; the oil behind it. */
        final int[] lit = new int[MINUTES];
        final int[] out = new int[MINUTES];
        final int[] oil = new int[MINUTES * LAMPS];
        int walkEnd = NONE;
        final int[] walkRow = new int[MINUTES];
        private final Town town;
        private final Streets streets;
        private final Tempers tempers;
        private final Night night;
        private boolean isTold = false;
        /** The corners that are light in each minute; NONE: not looked at yet. */
        private final int[] light = new int[MINUTES];
        private final int[] walkAsked = new int[4];
        private final int[] walkSets = new int[MINUTES];

        Chronicle(Town town, Streets streets, Tempers tempers, Night night) {
            this.town = town;
            this.streets = streets;
            this.tempers = tempers;
            this.night = night;
        }

        void forget() {
            isTold = false;
            walkAsked[0] = NONE;
        }

        void relate() {
            if (isTold) {
                return;
            }
            isTold = true;
            Arrays.fill(light, NONE);
            night.restart();
            for (int minute = 0; minute < MINUTES; minute++) {
                lit[minute] = night.step(minute);
                out[minute] = night.gone;
                System.arraycopy(night.oil, 0, oil, minute * LAMPS, LAMPS);
            }
        }

        /** The night was related first. */
        int lightAt(int minute) {
            if (light[minute] == NONE) {
                int bits = 0;
                for (int lamp = 0; lamp < town.lamps.size; lamp++) {
                    if ((lit[minute] >> lamp & 1) != 0) {
                        bits |= shine(lamp, night.kinds[lamp], night.corners[lamp], minute);
                    }
                }
                for (int lantern = 0; lantern < night.lanterns; lantern++) {
                    int place = night.places[lantern * MINUTES + minute];
                    if (place != NONE) {
                        bits |= shine(NONE, night.lanternKinds[lantern], place, minute);
                    }
                }
                light[minute] = bits;
            }
            return light[minute];
        }

        private int shine(int lamp, int kind, int corner, int minute) {
            return streets.within(corner, tempers.ask(REACHES, lamp, kind, NONE, NONE, NONE, minute));
        }

        int firstOut(int lamps) {
            for (int minute = 0; minute < MINUTES; minute++) {
                if ((out[minute] & lamps) != 0) {
                    return minute;
                }
            }
            return NONE;
        }

        /** The first dark errand (0), its minute (1), how many are dark (2). */
        int darkErrands(int what) {
            int first = NONE;
            int when = NONE;
            int dark = 0;
            for (int minute = 0; minute < MINUTES; minute++) {
                for (int errand = 0; errand < town.errands.size; errand++) {
                    if (minute < town.errands.get(errand, FROM) || minute > town.errands.get(errand, TILL)
                            || (lightAt(minute) >> town.errands.get(errand, CORNER) & 1) != 0) {
                        continue;
                    }
                    if (first == NONE) {
                        first = errand;
                        when = minute;
                    }
                    dark |= 1 << errand;
                }
            }
            return what == 0 ? first : what == 1 ? when : Integer.bitCount(dark);
        }

        void findWalk(int from, int minute, int to, int isLight) {
            if (walkAsked[0] == from && walkAsked[1] == minute && walkAsked[2] == to && walkAsked[3] == isLight) {
                return;
            }
            walkAsked[0] = from;
            walkAsked[1] = minute;
            walkAsked[2] = to;
            walkAsked[3] = isLight;
            walkEnd = NONE;
            int here = 1 << from;
            for (int now = minute; now < MINUTES && walkEnd == NONE; now++) {
                // The first place is where one stands; from the next minute on one may go.
                here = (now == minute ? here : streets.around(here)) & (isLight == 1 ? lightAt(now) : ~lightAt(now));
                walkSets[now] = here;
                if ((here >> to & 1) != 0) {
                    walkEnd = now;
                }
            }
            if (walkEnd != NONE) {
                layWalk(minute, to);
            }
        }

        /** Backwards only corners stay from which one still comes there in time; forwards the lowest is taken. */
        private void layWalk(int minute, int to) {
            walkSets[walkEnd] = 1 << to;
            for (int now = walkEnd - 1; now >= minute; now--) {
                walkSets[now] &= streets.around(walkSets[now + 1]);
            }
            int here = walkSets[minute];
            for (int now = minute; now <= walkEnd; now++) {
                int choice = (now == minute ? here : streets.around(here)) & walkSets[now];
                int lowest = 0;
                while (lowest < CORNERS - 1 && (choice >> lowest & 1) == 0) {
                    lowest++;
                }
                here = 1 << lowest;
                walkRow[now] = lowest;
            }
        }
    }

    /** Nights that are not, but might be. */
    private static final class Guesses {
        private static final int ENDLESS = MINUTES * LAMPS + 1;

        final Table strangers = new Table(CORNERS * KINDS, 1);
        final Table changes = new Table(LAMPS * KINDS, 1);
        final int[] likedKinds = new int[LAMPS];
        final int[] likedMinutes = new int[LAMPS];
        int worstMinutes = NONE;
        final int[] worstRow = new int[WORST_GOES];
        private final Town town;
        private final Streets streets;
        private final Night night;
        private boolean areStrangersFound = false;
        private boolean areChangesFound = false;
        /** The lamps whose liking was found, and those that would be lit longer by another kind, as bits. */
        private int liking = 0;
        private int restless = 0;
        private final int[] worstAsked = new int[4];
        private final int[] trial = new int[MINUTES];
        /** For each minute the lamps that soot tells lit, not lit, as bits; the last minute of any. */
        private final int[] sootLit = new int[MINUTES];
        private final int[] sootDark = new int[MINUTES];
        private int lastSoot = NONE;

        Guesses(Town town, Streets streets, Night night) {
            this.town = town;
            this.streets = streets;
            this.night = night;
        }

        void forget() {
            areStrangersFound = false;
            areChangesFound = false;
            liking = 0;
            restless = 0;
            worstAsked[0] = NONE;
        }

        /** In how many minutes all lamps together are lit with one lantern more. */
        int litWith(int kind, int[] corners) {
            night.carry(kind, corners);
            night.restart();
            int sum = litFrom(0, MINUTES, ENDLESS);
            night.dismiss();
            return sum;
        }

        /** In how many minutes lamps are lit from one minute till ahead of another; beyond a bound no more is added. */
        private int litFrom(int from, int till, int bound) {
            int sum = 0;
            for (int minute = from; minute < till && sum < bound; minute++) {
                sum += Integer.bitCount(night.step(minute));
            }
            return sum;
        }

        void findWorst(int kind, int minute, int corner, int n) {
            if (worstAsked[0] == kind && worstAsked[1] == minute && worstAsked[2] == corner && worstAsked[3] == n) {
                return;
            }
            worstAsked[0] = kind;
            worstAsked[1] = minute;
            worstAsked[2] = corner;
            worstAsked[3] = n;
            worstMinutes = ENDLESS;
            // Ahead of its first minute all is as without that lantern.
            night.restart();
            int before = litFrom(0, minute, ENDLESS);
            night.keep();
            int rows = n == 0 ? 1 : n == 1 ? CORNERS : n == 2 ? CORNERS * CORNERS : CORNERS * CORNERS * CORNERS;
            for (int row = 0; row < rows; row++) {
                if (!layTrial(row, rows, minute, corner)) {
                    continue;
                }
                night.carry(kind, trial);
                night.recall();
                int sum = before + litFrom(minute, MINUTES, worstMinutes - before);
                if (sum < worstMinutes) {
                    worstMinutes = sum;
                    int unit = rows;
                    for (int i = 0; i < n; i++) {
                        unit /= CORNERS;
                        worstRow[i] = unit == 0 ? NONE : row / unit % CORNERS;
                    }
                }
            }
            night.dismiss();
        }

        /** A row of corners, told as one number, becomes the lantern's corners by minutes, if ways lead so. */
        private boolean layTrial(int row, int rows, int minute, int corner) {
            int at = corner;
            int unit = rows;
            Arrays.fill(trial, 0, minute, NONE);
            for (int now = minute; now < minute + CORNERS && unit > 0; now++) {
                if (now > minute) {
                    int next = row / unit % CORNERS;
                    if (next != at && (streets.beside[at] >> next & 1) == 0) {
                        return false;
                    }
                    at = next;
                }
                if (now < MINUTES) {
                    Arrays.fill(trial, now, MINUTES, at);
                }
                unit /= CORNERS;
            }
            return true;
        }

        void findLiking(int lamp) {
            if ((liking >> lamp & 1) != 0) {
                return;
            }
            liking |= 1 << lamp;
            int most = NONE;
            int asIs = 0;
            for (int kind = 0; kind < KINDS; kind++) {
                int sum = 0;
                night.disguise(lamp, kind);
                night.restart();
                for (int minute = 0; minute < MINUTES; minute++) {
                    sum += night.step(minute) >> lamp & 1;
                }
                if (sum > most) {
                    most = sum;
                    likedKinds[lamp] = kind;
                }
                if (kind == town.lamps.get(lamp, KIND)) {
                    asIs = sum;
                }
            }
            night.dismiss();
            likedMinutes[lamp] = most;
            if (most > asIs) {
                restless |= 1 << lamp;
            }
        }

        int unrest() {
            for (int lamp = 0; lamp < town.lamps.size; lamp++) {
                findLiking(lamp);
            }
            return restless;
        }

        void findStrangers() {
            if (areStrangersFound) {
                return;
            }
            areStrangersFound = true;
            strangers.size = 0;
            gatherSoot();
            for (int guest = 0; guest < CORNERS * KINDS; guest++) {
                night.invite(guest / KINDS, guest % KINDS);
                if (isSootExplained()) {
                    strangers.list(guest);
                }
            }
            night.dismiss();
        }

        void findChanges() {
            if (areChangesFound) {
                return;
            }
            areChangesFound = true;
            changes.size = 0;
            gatherSoot();
            for (int lamp = 0; lamp < town.lamps.size; lamp++) {
                for (int kind = 0; kind < KINDS; kind++) {
                    night.disguise(lamp, kind);
                    if (kind != town.lamps.get(lamp, KIND) && isSootExplained()) {
                        changes.list(lamp * KINDS + kind);
                    }
                }
                night.dismiss();
            }
        }

        private void gatherSoot() {
            Arrays.fill(sootLit, 0);
            Arrays.fill(sootDark, 0);
            lastSoot = NONE;
            for (int i = 0; i < town.soot.size; i++) {
                int minute = town.soot.get(i, WHEN);
                int bit = 1 << town.soot.get(i, WHOSE);
                if (town.soot.get(i, IS_ON) == 1) {
                    sootLit[minute] |= bit;
                } else {
                    sootDark[minute] |= bit;
                }
                lastSoot = Math.max(lastSoot, minute);
            }
        }

        private boolean isSootExplained() {
            night.restart();
            for (int minute = 0; minute <= lastSoot && minute < MINUTES; minute++) {
                int lit = night.step(minute);
                if ((sootLit[minute] & ~lit | sootDark[minute] & lit) != 0) {
                    return false;
                }
            }
            return true;
        }
    }

    /** The fewest lamps, the fewest shutters. */
    private static final class Planner {
        static final int SITES = 6;
        static final int KINDS_TOLD = 3;
        private static final int NO_LAMP = 100;
        private static final int MOST_SHUTTERS = 3;
        private static final int ALL = -1;

        int hangLamps = 0;
        int hangWays = 0;
        final int[] hangRow = new int[SITES];
        int peaceBits = 0;
        int peaceWays = 0;
        private final Town town;
        private final Streets streets;
        private final Tempers tempers;
        private final Night night;
        private final int[] hangAsked = new int[4];
        /** For each site and kind, by one number: the corners it lights, and which others shun it or are shunned. */
        private final int[] shines = new int[SITES * KINDS_TOLD];
        private final int[] clashes = new int[SITES * KINDS_TOLD];
        private boolean isPeaceFound = false;
        /** For each two corners: the sights (and 1) by which a lamp at the first shuns what is at the second, as bits. */
        private final int[] quarrels = new int[CORNERS * CORNERS];
        private final int[] open = new int[CORNERS];
        private final int[] distances = new int[CORNERS];

        Planner(Town town, Streets streets, Tempers tempers, Night night) {
            this.town = town;
            this.streets = streets;
            this.tempers = tempers;
            this.night = night;
        }

        void forget() {
            hangAsked[0] = NONE;
            isPeaceFound = false;
        }

        /** The place of the n-th bit that is set, NONE if there are not so many. */
        private static int placeOf(int bits, int n) {
            int before = 0;
            for (int place = 0; place < WAYS; place++) {
                if ((bits >> place & 1) == 0) {
                    continue;
                }
                if (before == n) {
                    return place;
                }
                before++;
            }
            return NONE;
        }

        void findHanging(int sites, int kinds, int corners, int minute) {
            if (hangAsked[0] == sites && hangAsked[1] == kinds && hangAsked[2] == corners && hangAsked[3] == minute) {
                return;
            }
            hangAsked[0] = sites;
            hangAsked[1] = kinds;
            hangAsked[2] = corners;
            hangAsked[3] = minute;
            int siteCount = Math.min(SITES, Integer.bitCount(sites));
            int choices = Math.min(KINDS_TOLD, Integer.bitCount(kinds)) + 1;
            weighSites(sites, kinds, minute);
            hangLamps = siteCount + 1;
            hangWays = 0;
            int rows = 1;
            for (int site = 0; site < siteCount; site++) {
                rows *= choices;
            }
            for (int row = 0; row < rows; row++) {
                int lamps = lampsOf(row, rows, choices, corners);
                if (lamps == NONE || lamps > hangLamps) {
                    continue;
                }
                if (lamps == hangLamps) {
                    hangWays++;
                    continue;
                }
                hangLamps = lamps;
                hangWays = 1;
                int unit = rows;
                for (int site = 0; site < siteCount; site++) {
                    unit /= choices;
                    int choice = unit == 0 ? 0 : row / unit % choices;
                    hangRow[site] = choice == 0 ? NO_LAMP : placeOf(kinds, choice - 1);
                }
            }
        }

        private void weighSites(int sites, int kinds, int minute) {
            int items = Math.min(SITES, Integer.bitCount(sites)) * KINDS_TOLD;
            Arrays.fill(clashes, 0);
            for (int item = 0; item < items; item++) {
                int site = item / KINDS_TOLD;
                int corner = placeOf(sites, site);
                int kind = placeOf(kinds, item % KINDS_TOLD);
                if (kind == NONE) {
                    continue;
                }
                shines[item] = streets.within(corner, tempers.ask(REACHES, site, kind, NONE, NONE, NONE, minute));
                for (int other = 0; other < items; other++) {
                    int otherKind = placeOf(kinds, other % KINDS_TOLD);
                    int near = streets.sight(corner, placeOf(sites, other / KINDS_TOLD));
                    if (other / KINDS_TOLD != site && otherKind != NONE
                            && tempers.ask(SHUNS, site, kind, otherKind, near, 0, minute) != 0) {
                        clashes[item] |= 1 << other;
                        clashes[other] |= 1 << item;
                    }
                }
            }
        }

        /** How many lamps a row has, told as one number; NONE if they are not at peace or leave a corner dark. */
        private int lampsOf(int row, int rows, int choices, int corners) {
            int chosen = 0;
            int dark = corners;
            int unit = rows / choices;
            for (int site = 0; site < SITES && unit > 0; site++) {
                int choice = row / unit % choices;
                if (choice > 0) {
                    int item = site * KINDS_TOLD + choice - 1;
                    if ((clashes[item] & chosen) != 0) {
                        return NONE;
                    }
                    chosen |= 1 << item;
                    dark &= ~shines[item];
                }
                unit /= choices;
            }
            return dark == 0 ? Integer.bitCount(chosen) : NONE;
        }

        void findPeace() {
            if (isPeaceFound) {
                return;
            }
            isPeaceFound = true;
            peaceBits = 0;
            peaceWays = 0;
            gatherQuarrels();
            int unshuttered = 0;
            for (int way = 0; way < town.ways.size; way++) {
                if (town.ways.get(way, IS_SHUTTERED) == 0) {
                    unshuttered |= 1 << way;
                }
            }
            int most = isHopeless() ? NONE : Math.min(MOST_SHUTTERS, Integer.bitCount(unshuttered));
            for (int size = 0; size <= most && peaceWays == 0; size++) {
                tryShutters(size, unshuttered);
            }
        }

        /**
         * While no lamp goes out, what burns does not depend on shutters: so a night in which none does
         * shows all quarrels that any shutters would have to prevent.
         */
        private void gatherQuarrels() {
            Arrays.fill(quarrels, 0);
            night.restart();
            for (int minute = 0; minute < MINUTES; minute++) {
                night.prepare(minute);
                int stirred = night.stirredLamps();
                int moved = night.movedLanterns(minute);
                for (int lamp = 0; lamp < night.lamps && (stirred | moved) != 0; lamp++) {
                    if ((night.burning >> lamp & 1) != 0) {
                        boolean isStirred = (stirred >> lamp & 1) != 0;
                        learnOfLamps(lamp, isStirred ? night.burning : stirred, minute);
                        learnOfLanterns(lamp, isStirred ? ALL : moved, minute);
                    }
                }
                night.finish(minute, 0);
            }
        }

        private void learnOfLamps(int lamp, int others, int minute) {
            for (int other = 0; other < night.lamps; other++) {
                if (other != lamp && (others >> other & 1) != 0) {
                    learn(lamp, other, night.kinds[other], night.corners[other], minute);
                }
            }
        }

        private void learnOfLanterns(int lamp, int lanterns, int minute) {
            for (int lantern = 0; lantern < night.lanterns; lantern++) {
                int place = night.places[lantern * MINUTES + minute];
                if (place != NONE && (lanterns >> lantern & 1) != 0) {
                    learn(lamp, NONE, night.lanternKinds[lantern], place, minute);
                }
            }
        }

        /** By which sights a lamp shuns another lamp, or a lantern (other NONE): then one of the two goes out. */
        private void learn(int lamp, int other, int kind, int corner, int minute) {
            int pair = night.corners[lamp] * CORNERS + corner;
            int later = other == NONE || night.since[lamp] > night.since[other] ? 1 : 0;
            int undecided = possibleSights(pair) & ~quarrels[pair];
            for (int near = NONE; near < CORNERS && undecided != 0; near++) {
                if ((undecided >> near + 1 & 1) != 0
                        && tempers.ask(SHUNS, lamp, night.kinds[lamp], kind, near, later, minute) != 0) {
                    quarrels[pair] |= 1 << near + 1;
                }
            }
        }

        /** The sights (and 1) that two corners can have with more shutters, as bits: as near or farther, or none. */
        private int possibleSights(int pair) {
            int a = pair / CORNERS;
            int b = pair % CORNERS;
            int near = streets.sight(a, b);
            if (a == b || near == NONE) {
                return 1 << near + 1;
            }
            return 1 | (1 << CORNERS + 1) - (1 << near + 1);
        }

        private boolean isHopeless() {
            for (int pair = 0; pair < quarrels.length; pair++) {
                if (quarrels[pair] != 0 && quarrels[pair] == possibleSights(pair)) {
                    return true;
                }
            }
            return false;
        }

        /** All choices of so many of the ways, from the lowest bits up. */
        private void tryShutters(int size, int unshuttered) {
            int end = 1 << Integer.bitCount(unshuttered);
            int choice = (1 << size) - 1;
            for (int turns = 0; turns < 1 << WAYS && choice < end; turns++) {
                int bits = waysOf(choice, unshuttered);
                if (isPeaceful(bits)) {
                    if (peaceWays == 0) {
                        peaceBits = bits;
                    }
                    peaceWays++;
                }
                int lowest = choice & -choice;
                if (lowest == 0) {
                    break;
                }
                // The next higher number with as many bits.
                int carried = choice + lowest;
                choice = carried | (choice ^ carried) / lowest >> 2;
            }
        }

        private static int waysOf(int choice, int unshuttered) {
            int bits = 0;
            int place = 0;
            for (int way = 0; way < WAYS; way++) {
                if ((unshuttered >> way & 1) != 0) {
                    bits |= (choice >> place & 1) << way;
                    place++;
                }
            }
            return bits;
        }

        private boolean isPeaceful(int shuttered) {
            System.arraycopy(streets.open, 0, open, 0, CORNERS);
            for (int way = 0; way < town.ways.size && shuttered >> way != 0; way++) {
                if ((shuttered >> way & 1) == 0) {
                    continue;
                }
                int a = town.ways.get(way, LOWER);
                int b = town.ways.get(way, HIGHER);
                open[a] &= ~(1 << b);
                open[b] &= ~(1 << a);
            }
            for (int corner = 0; corner < CORNERS; corner++) {
                boolean isSpread = false;
                for (int other = 0; other < CORNERS; other++) {
                    int bad = quarrels[corner * CORNERS + other];
                    if (bad == 0) {
                        continue;
                    }
                    if (!isSpread) {
                        Streets.spread(open, corner, distances, 0);
                        isSpread = true;
                    }
                    if ((bad >> distances[other] + 1 & 1) != 0) {
                        return false;
                    }
                }
            }
            return true;
        }
    }
}
