/** Hats that tell the truth: hats on the pegs of a hall, what each knows and what each tells by night. */
public final class TruthHats {
    public static final int NONE = -1;

    private static final int PEGS = 10;
    private static final int HATS = 7;
    private static final int THOUGHTS = 8;
    private static final int LAWS = 6;
    private static final int MOST_HEARD = 6;
    private static final int IMAGES = 2;
    private static final int TAPE = 400;
    private static final int LAST_HOUR = 999;
    private static final int FAR = 60;

    private static final int HOUR = 0;
    private static final int LEAKS = 1;
    private static final int TERMS = 3;

    private static final int BAD_NUMBER = -1;
    private static final int NO_SUCH = -2;
    private static final int CANT_BE = -3;
    private static final int NO_ROOM = -5;
    private static final int BAD_TEXT = -6;
    private static final int REASONS = 5;

    // what an order does; undo() answers these numbers, too
    private static final int HANG = 0;
    private static final int TAKE = 1;
    private static final int THINK = 2;
    private static final int PASS = 3;
    private static final int MOST_UNDONE = 16;

    private static final int TELLS = 0;
    private static final int WEIGHS = 1;
    private static final int BARS = 2;
    private static final int MOST_TOLD = 8;
    private static final int MOST_WEIGHT = 99;

    private static final int CLAUSES = 12;
    private static final int PARTS = 50;
    private static final int BRACKETS = 8;
    private static final int MOST_NUMBER = 1000;
    private static final int MOST_TIMES = 20;
    private static final long MOST_STEP = 1000000000L;

    // where a clause's row has what; what starts in a cell ends where the next cell tells
    private static final int KIND = 0;
    private static final int REPEATS = 1;
    private static final int FIRST = 2;
    private static final int SECOND = 4;
    private static final int TEST = 6;
    private static final int ROW = 8;

    // the operations of the code; an operation's number is beside it, above its lowest four bits
    private static final int NUMBER = 0;
    private static final int WORD = 1;
    private static final int PLUS = 2;
    private static final int MINUS = 3;
    private static final int PRODUCT = 4;
    private static final int QUOTIENT = 5;
    private static final int REST = 6;
    private static final int LESS = 7;
    private static final int MORE = 8;
    private static final int SAME = 9;
    private static final int NOT = 10;
    private static final int AND = 11;
    private static final int OR = 12;
    private static final int OPERATION_BITS = 4;
    private static final int OPERATION_MASK = 15;

    private static final String LAW_STARTS = "tells weighs bars";
    private static final String ORDER_STARTS = "hang take think pass";
    private static final String LAW_WORDS = "hat kind tall knows other like thought hour rain";
    private static final String ORDER_WORDS = "hour done latest hung peg knows";
    private static final int LAW_HOUR = 7;
    private static final int ORDER_PEG = 4;
    private static final int ORDER_KNOWS = 5;
    // in an order's words each hat has its own cell for "peg" and one for "knows"
    private static final int PEG_CELLS = 4;
    private static final int KNOWS_CELLS = 11;
    private static final int WORD_CELLS = 18;

    private static final int MOST_THOUGHT_OF = 99;
    private static final int MOST_FEW = 20;
    private static final long WHOLE_CHANCE = 1000000000000L;
    private static final int MOST_SEED = 1000000;
    private static final int SEED_FACTOR = 1103;
    private static final int SEED_STEP = 12345;
    private static final int SEED_MODULUS = 1000003;
    private static final int MOST_QUIET_HOURS = 12;
    private static final int MOST_QUIET_HATS = 3;

    private final Hall hall = new Hall();
    private final Hall paper = new Hall();
    private final Hall ahead = new Hall();
    private final Hall capitalHall = new Hall();
    private final Hall[] images = {new Hall(), new Hall()};
    private final boolean[] kept = new boolean[IMAGES];
    private final Past past = new Past();
    private final Past pastAhead = new Past();
    private final Tape tape = new Tape();
    private final Reader reader = new Reader(tape);
    private final Machine clerk = new Machine();
    private final Night night = new Night();
    private final Planner planner = new Planner(night, paper);
    private final long[] chances = new long[MOST_FEW];
    private final int[] refusals = new int[REASONS];
    private boolean drew;
    private int capCount;
    private int faultPlace = NONE;
    private int stoppedClause = NONE;
    private int lastStatus;

    public TruthHats() {
    }

    public int hat(int kind, int tall) {
        if (!isHat(kind, tall)) {
            return refused(BAD_NUMBER);
        }
        if (hall.hats >= HATS) {
            return refused(NO_ROOM);
        }
        past.clear();
        hall.addHat(kind, tall, 0);
        return accepted(hall.hats - 1);
    }

    public int of(int hat, int what) {
        if (!hall.hasHat(hat)) {
            return NONE;
        }
        switch (what) {
            case 0:
                return at(hall.kinds, hat);
            case 1:
                return at(hall.talls, hat);
            case 2:
                return at(hall.pegs, hat);
            case 3:
                return at(hall.knows, hat);
            case 4:
                return night.worth(hall, hat);
            default:
                return NONE;
        }
    }

    public int two(int hat, int other, int what) {
        if (!hall.hasTwo(hat, other) || what < 0 || what > THOUGHTS) {
            return NONE;
        }
        int kind = what == 0 ? TELLS : BARS;
        return night.answer(hall, hall.lawInForce(), kind, hat, other, what - 1);
    }

    public int on(int peg) {
        return hall.hatOn(peg);
    }

    public int terms(int what, int value) {
        if (what < 0 || what >= TERMS || value < 0 || value > mostOfTerm(what)) {
            return refused(BAD_NUMBER);
        }
        int before = hall.term(what);
        hall.setTerm(what, value);
        past.clear();
        return accepted(before);
    }

    public int feed(int a, int b, int c, int d, int e) {
        if (tape.length > TAPE - 20) {
            return NONE;
        }
        tape.add(a);
        tape.add(b);
        tape.add(c);
        tape.add(d);
        tape.add(e);
        return tape.length;
    }

    public int end(int n) {
        if (n < 0 || n > tape.length) {
            return NONE;
        }
        tape.length = n;
        return n;
    }

    public int row() {
        if (tape.length == 0) {
            return refused(BAD_TEXT);
        }
        past.clear();
        capCount = 0;
        int came = 0;
        for (int i = 0; i < tape.length; i += 3) {
            if (bringHat(i)) {
                came++;
            } else {
                capCount++;
            }
        }
        tape.length = 0;
        return accepted(came);
    }

    public int caps() {
        return capCount;
    }

    public int law() {
        if (hall.lawCount >= LAWS) {
            tape.length = 0;
            return refused(NO_ROOM);
        }
        boolean well = reader.read(false);
        finishReading();
        if (!well) {
            return refused(BAD_TEXT);
        }
        hall.addLaw(new Text(reader.text));
        return accepted(hall.lawCount - 1);
    }

    public int orders() {
        stoppedClause = NONE;
        boolean well = reader.read(true);
        finishReading();
        if (!well) {
            return refused(BAD_TEXT);
        }
        ahead.copyMoving(hall);
        pastAhead.copy(past);
        int done = runOrders(reader.text);
        if (stoppedClause == NONE) {
            return accepted(done);
        }
        hall.copyMoving(ahead);
        past.copy(pastAhead);
        return refused(CANT_BE);
    }

    public int fault() {
        return faultPlace;
    }

    public int stopped() {
        return stoppedClause;
    }

    public int force(int law) {
        if (!hall.hasLaw(law)) {
            return refused(NO_SUCH);
        }
        int before = hall.force;
        hall.force = law;
        return accepted(before);
    }

    public int hang(int hat, int peg) {
        return settled(act(HANG, hat, peg));
    }

    public int take(int hat) {
        return settled(act(TAKE, hat, 0));
    }

    public int think(int hat, int thought) {
        return settled(act(THINK, hat, thought));
    }

    public int pass() {
        return settled(act(PASS, 0, 0));
    }

    public int undo() {
        int kind = past.goBack(hall);
        return kind == NONE ? refused(CANT_BE) : accepted(kind);
    }

    public int later(int hat, int n) {
        if (!hall.hasHat(hat) || n < 0 || n > FAR) {
            return NONE;
        }
        paper.copy(hall);
        night.runHours(paper, n);
        return at(paper.knows, hat);
    }

    public int learns(int hat, int thought) {
        if (!hall.hasHat(hat) || !isThought(thought)) {
            return NONE;
        }
        paper.copy(hall);
        for (int n = 0; n <= FAR; n++) {
            if (paper.knowsIt(hat, thought)) {
                return n;
            }
            night.oneHour(paper);
        }
        return NONE;
    }

    public int still() {
        paper.copy(hall);
        int latest = 0;
        for (int n = 1; n <= FAR; n++) {
            if (night.oneHour(paper) > 0) {
                latest = n;
            }
        }
        return latest;
    }

    public int pegFor(int hat, int thought, int other, int n) {
        if (!hall.hasTwo(hat, other) || !isThought(thought) || n < 1 || n > FAR) {
            return NONE;
        }
        return planner.bestPeg(hall, hat, thought, other, n);
    }

    public int cut(int hat, int thought, int what) {
        if (!hall.hasHat(hat) || !isThought(thought) || what < 0 || what > 1) {
            return NONE;
        }
        if (hall.knowsIt(hat, thought)) {
            return NONE;
        }
        int off = planner.fewestOff(hall, hat, thought);
        return what == 0 ? Integer.bitCount(off) : off;
    }

    public int quiet(int n, int i) {
        int off = hall.hats - hall.hungCount();
        if (n < 1 || n > MOST_QUIET_HOURS || off > MOST_QUIET_HATS || i < NONE || i >= off) {
            return NONE;
        }
        planner.hangQuietly(hall, n);
        return i == NONE ? planner.leastWeight : planner.pegInRow(planner.leastRow, off, i);
    }

    public int groups(int hat) {
        if (hat == NONE) {
            return hall.groupCount();
        }
        return hall.hasHat(hat) ? hall.groupOf(hat) : NONE;
    }

    public int talkative(int what) {
        if (hall.hats == 0 || what < 0 || what > 1) {
            return NONE;
        }
        int best = 0;
        int most = NONE;
        for (int hat = 0; hat < hall.hats; hat++) {
            int told = night.toldByAll(hall, hat);
            if (told > most) {
                best = hat;
                most = told;
            }
        }
        return what == 0 ? best : most;
    }

    public int heard(int thought, int is) {
        if (!isThought(thought) || is < 0 || is > 1) {
            return refused(BAD_NUMBER);
        }
        if (hall.heardCount >= MOST_HEARD) {
            return refused(NO_ROOM);
        }
        hall.hear(thought, is);
        return accepted(hall.heardCount);
    }

    public int forget() {
        int before = hall.heardCount;
        hall.hearNothing();
        return before;
    }

    public int canBe() {
        int set = 0;
        for (int hat = 0; hat < hall.hats; hat++) {
            if (hall.canBeHeard(hat)) {
                set |= 1 << hat;
            }
        }
        return set;
    }

    public int ask(int what) {
        int set = canBe();
        if (set == 0 || what < 0 || what > 1) {
            return NONE;
        }
        int best = 0;
        int fewest = HATS + 1;
        for (int thought = 0; thought < THOUGHTS; thought++) {
            int yes = hall.knowersOf(thought, set);
            int left = Math.max(yes, Integer.bitCount(set) - yes);
            if (left < fewest) {
                best = thought;
                fewest = left;
            }
        }
        return what == 0 ? best : fewest;
    }

    public long few(int k, int n) {
        if (k < 1 || k > MOST_FEW || n < 0 || n > MOST_THOUGHT_OF) {
            return NONE;
        }
        clear(chances);
        put(chances, 0, WHOLE_CHANCE);
        for (int i = 0; i < n; i++) {
            leakOneMore(k);
        }
        long sum = 0;
        for (int j = 0; j < k; j++) {
            sum += at(chances, j);
        }
        return sum;
    }

    public int compare(int law, int hat, int other) {
        if (!hall.hasLaw(law) || !hall.hasTwo(hat, other)) {
            return NONE;
        }
        return night.answer(hall, hall.lawAt(law), TELLS, hat, other, NONE);
    }

    public int capitals(int seed, int n) {
        if (seed < 0 || seed > MOST_SEED || n < 1 || n > FAR) {
            return refused(BAD_NUMBER);
        }
        if (hall.hats <= 0) {
            return refused(CANT_BE);
        }
        capitalHall.copy(hall);
        drew = true;
        int drawn = seed;
        int learnt = 0;
        for (int i = 0; i < n && capitalHall.hour < LAST_HOUR; i++) {
            drawn = drawCapital(drawn);
            learnt += night.oneHour(capitalHall);
        }
        return accepted(learnt);
    }

    public int drawn(int k, int what) {
        if (!drew || !capitalHall.hasHat(k)) {
            return NONE;
        }
        if (what == 0) {
            return at(capitalHall.pegs, k);
        }
        return what == 1 ? at(capitalHall.knows, k) : NONE;
    }

    public int image(int k) {
        if (k < 0 || k >= images.length || k >= kept.length) {
            return refused(BAD_NUMBER);
        }
        images[k].copy(hall);
        kept[k] = true;
        return accepted(0);
    }

    public int back(int k) {
        if (k < 0 || k >= images.length || k >= kept.length) {
            return refused(BAD_NUMBER);
        }
        if (!kept[k]) {
            return refused(NO_SUCH);
        }
        hall.copy(images[k]);
        past.clear();
        return accepted(0);
    }

    public int count(int what) {
        switch (what) {
            case 0:
                return hall.hats;
            case 1:
                return hall.hungCount();
            case 2:
                return hall.knownByAny();
            case 3:
                return hall.heardCount;
            case 4:
                return hall.lawCount;
            case 5:
                return past.count;
            case 6:
                return tape.length;
            case 12:
                return hall.force;
            case 13:
            case 14:
            case 15:
                return hall.term(what - 13);
            default:
                return what >= 7 && what <= 11 ? at(refusals, what - 7) : NONE;
        }
    }

    public int status() {
        return lastStatus;
    }

    private int refused(int reason) {
        lastStatus = reason;
        int place = placeOfReason(reason);
        put(refusals, place, at(refusals, place) + 1);
        return reason;
    }

    private int accepted(int answer) {
        lastStatus = 0;
        return answer;
    }

    private int settled(int answer) {
        return answer < 0 ? refused(answer) : accepted(answer);
    }

    private static int placeOfReason(int reason) {
        switch (reason) {
            case BAD_NUMBER:
                return 0;
            case NO_SUCH:
                return 1;
            case CANT_BE:
                return 2;
            case NO_ROOM:
                return 3;
            default:
                return 4;
        }
    }

    private static boolean isHat(int kind, int tall) {
        return kind >= 0 && kind <= 3 && tall >= 0 && tall <= 9;
    }

    private static boolean isThought(int thought) {
        return thought >= 0 && thought < THOUGHTS;
    }

    private static int mostOfTerm(int what) {
        switch (what) {
            case HOUR:
                return LAST_HOUR;
            case LEAKS:
                return 10;
            default:
                return 9;
        }
    }

    private boolean bringHat(int place) {
        int kind = at(tape.bytes, place);
        int tall = at(tape.bytes, place + 1);
        if (place + 2 >= tape.length || !isHat(kind, tall) || hall.hats >= HATS) {
            return false;
        }
        hall.addHat(kind, tall, at(tape.bytes, place + 2));
        return true;
    }

    private void finishReading() {
        faultPlace = reader.fault;
        tape.length = 0;
    }

    /** How many were run; stoppedClause tells which one could not be. */
    private int runOrders(Text text) {
        int done = 0;
        int latest = NONE;
        for (int clause = 0; clause < text.clauses; clause++) {
            int kind = text.cell(clause, KIND);
            int times = text.cell(clause, REPEATS);
            for (int i = 0; i < times; i++) {
                clerk.setOrderWords(hall, done, latest);
                if (clerk.run(text, clause, TEST) == 0) {
                    continue;
                }
                int answer = CANT_BE;
                if (clerk.runSums(text, clause)) {
                    int hat = kind == THINK ? clerk.second : clerk.first;
                    int number = kind == THINK ? clerk.first : clerk.second;
                    answer = act(kind, hat, number);
                }
                if (answer < 0) {
                    stoppedClause = clause;
                    return done;
                }
                done++;
                latest = kind == PASS ? answer : latest;
            }
        }
        return done;
    }

    /** What the call of that kind answers; below 0, if it can't be. */
    private int act(int kind, int hat, int number) {
        int reason = whyNot(kind, hat, number);
        if (reason != 0) {
            return reason;
        }
        past.keep(kind, hall);
        switch (kind) {
            case HANG:
                put(hall.pegs, hat, number);
                return hall.besideCount(hat);
            case TAKE:
                int peg = at(hall.pegs, hat);
                put(hall.pegs, hat, NONE);
                return peg;
            case THINK:
                hall.learn(hat, 1 << number);
                return Integer.bitCount(at(hall.knows, hat));
            default:
                return night.oneHour(hall);
        }
    }

    private int whyNot(int kind, int hat, int number) {
        if (kind == PASS) {
            return hall.hour < LAST_HOUR ? 0 : CANT_BE;
        }
        if (kind == HANG && (number < 0 || number >= PEGS) || kind == THINK && !isThought(number)) {
            return BAD_NUMBER;
        }
        if (!hall.hasHat(hat)) {
            return NO_SUCH;
        }
        return hall.canDo(kind, hat, number) ? 0 : CANT_BE;
    }

    private void leakOneMore(int k) {
        long leaks = hall.leaks;
        // from above, so that each part is still as it was when the next one is made of it
        for (int j = k - 1; j >= 0; j--) {
            long stays = at(chances, j) * (10 - leaks) / 10;
            put(chances, j, stays + at(chances, j - 1) * leaks / 10);
        }
    }

    /** One row of DRAWS and what comes of it; the hour is left to the caller. */
    private int drawCapital(int seed) {
        int hatDraw = nextDraw(seed);
        int pegDraw = nextDraw(hatDraw);
        int thoughtDraw = nextDraw(pegDraw);
        int last = nextDraw(thoughtDraw);
        int hats = capitalHall.hats;
        if (hats <= 0) {
            return last;
        }
        int hat = hatDraw % hats;
        int peg = pegDraw % PEGS;
        int thought = thoughtDraw % THOUGHTS;
        int kind = last % 4;
        if (kind == HANG && capitalHall.canDo(HANG, hat, peg)) {
            put(capitalHall.pegs, hat, peg);
        } else if (kind == TAKE) {
            put(capitalHall.pegs, hat, NONE);
        } else if (kind == THINK) {
            capitalHall.learn(hat, 1 << thought);
        }
        return last;
    }

    private static int nextDraw(int seed) {
        return (seed * SEED_FACTOR + SEED_STEP) % SEED_MODULUS;
    }

    // every index is looked at here, so that no caller can go beyond a row
    private static int at(int[] cells, int i) {
        return i >= 0 && i < cells.length ? cells[i] : 0;
    }

    private static long at(long[] cells, int i) {
        return i >= 0 && i < cells.length ? cells[i] : 0;
    }

    private static void put(int[] cells, int i, int value) {
        if (i >= 0 && i < cells.length) {
            cells[i] = value;
        }
    }

    private static void put(long[] cells, int i, long value) {
        if (i >= 0 && i < cells.length) {
            cells[i] = value;
        }
    }

    private static void copyCells(int[] from, int[] to) {
        for (int i = 0; i < from.length && i < to.length; i++) {
            to[i] = from[i];
        }
    }

    private static void clear(long[] cells) {
        for (int i = 0; i < cells.length; i++) {
            cells[i] = 0;
        }
    }

    /** All that an IMAGE keeps. */
    private static final class Hall {
        final int[] kinds = new int[HATS];
        final int[] talls = new int[HATS];
        final int[] pegs = new int[HATS];
        final int[] knows = new int[HATS];
        final Text[] laws = new Text[LAWS];
        int hour;
        int leaks = 1;
        int rain;
        int hats;
        int lawCount;
        int force = NONE;
        int heardCount;
        int heardKnown;
        int heardUnknown;

        void copy(Hall from) {
            copyCells(from.kinds, kinds);
            copyCells(from.talls, talls);
            copyMoving(from);
            leaks = from.leaks;
            rain = from.rain;
            hats = from.hats;
            lawCount = from.lawCount;
            force = from.force;
            heardCount = from.heardCount;
            heardKnown = from.heardKnown;
            heardUnknown = from.heardUnknown;
            for (int i = 0; i < laws.length && i < from.laws.length; i++) {
                laws[i] = from.laws[i];
            }
        }

        /** What orders and hours change, alone. */
        void copyMoving(Hall from) {
            copyCells(from.pegs, pegs);
            copyCells(from.knows, knows);
            hour = from.hour;
        }

        int term(int what) {
            switch (what) {
                case HOUR:
                    return hour;
                case LEAKS:
                    return leaks;
                default:
                    return rain;
            }
        }

        void setTerm(int what, int value) {
            switch (what) {
                case HOUR:
                    hour = value;
                    break;
                case LEAKS:
                    leaks = value;
                    break;
                default:
                    rain = value;
                    break;
            }
        }

        void addHat(int kind, int tall, int known) {
            put(kinds, hats, kind);
            put(talls, hats, tall);
            put(pegs, hats, NONE);
            put(knows, hats, known);
            hats = Math.min(hats + 1, HATS);
        }

        void addLaw(Text law) {
            if (lawCount >= 0 && lawCount < laws.length) {
                laws[lawCount] = law;
                lawCount++;
            }
        }

        boolean hasHat(int hat) {
            return hat >= 0 && hat < hats;
        }

        boolean hasTwo(int hat, int other) {
            return hasHat(hat) && hasHat(other) && hat != other;
        }

        /** NONE is a law, too: that of no clause. */
        boolean hasLaw(int law) {
            return law >= NONE && law < lawCount;
        }

        Text lawAt(int law) {
            return law >= 0 && law < laws.length ? laws[law] : null;
        }

        Text lawInForce() {
            return lawAt(force);
        }

        int hatOn(int peg) {
            for (int hat = 0; hat < hats && peg >= 0; hat++) {
                if (at(pegs, hat) == peg) {
                    return hat;
                }
            }
            return NONE;
        }

        boolean isHung(int hat) {
            return hasHat(hat) && at(pegs, hat) != NONE;
        }

        int hungCount() {
            return Integer.bitCount(hungSet());
        }

        int hungSet() {
            int set = 0;
            for (int hat = 0; hat < hats; hat++) {
                if (isHung(hat)) {
                    set |= 1 << hat;
                }
            }
            return set;
        }

        void takeAll(int set) {
            for (int hat = 0; hat < hats; hat++) {
                if ((set >> hat & 1) == 1) {
                    put(pegs, hat, NONE);
                }
            }
        }

        int besideCount(int hat) {
            int peg = at(pegs, hat);
            int below = hatOn(peg - 1) == NONE ? 0 : 1;
            int above = hatOn(peg + 1) == NONE ? 0 : 1;
            return below + above;
        }

        /** For a hat that is there, and a peg or a thought that can be. */
        boolean canDo(int kind, int hat, int number) {
            switch (kind) {
                case HANG:
                    return !isHung(hat) && hatOn(number) == NONE;
                case TAKE:
                    return isHung(hat);
                default:
                    return !knowsIt(hat, number);
            }
        }

        void learn(int hat, int thoughts) {
            put(knows, hat, at(knows, hat) | thoughts);
        }

        boolean knowsIt(int hat, int thought) {
            return (at(knows, hat) >> thought & 1) == 1;
        }

        int knownByAny() {
            int all = 0;
            for (int hat = 0; hat < hats; hat++) {
                all |= at(knows, hat);
            }
            return all;
        }

        int knowersOf(int thought, int set) {
            int sum = 0;
            for (int hat = 0; hat < hats; hat++) {
                if ((set >> hat & 1) == 1 && knowsIt(hat, thought)) {
                    sum++;
                }
            }
            return sum;
        }

        int groupCount() {
            int sum = 0;
            for (int peg = 0; peg < PEGS; peg++) {
                if (hatOn(peg) != NONE && hatOn(peg - 1) == NONE) {
                    sum++;
                }
            }
            return sum;
        }

        int groupOf(int hat) {
            if (!isHung(hat)) {
                return 0;
            }
            int set = 1 << hat;
            for (int peg = at(pegs, hat) - 1; peg >= 0 && hatOn(peg) != NONE; peg--) {
                set |= 1 << hatOn(peg);
            }
            for (int peg = at(pegs, hat) + 1; peg < PEGS && hatOn(peg) != NONE; peg++) {
                set |= 1 << hatOn(peg);
            }
            return set;
        }

        void hear(int thought, int is) {
            heardCount++;
            if (is == 1) {
                heardKnown |= 1 << thought;
            } else {
                heardUnknown |= 1 << thought;
            }
        }

        void hearNothing() {
            heardCount = 0;
            heardKnown = 0;
            heardUnknown = 0;
        }

        boolean canBeHeard(int hat) {
            int known = at(knows, hat);
            return (known & heardKnown) == heardKnown && (known & heardUnknown) == 0;
        }
    }

    /** The latest acts, each with the hall as it was ahead of it: a ring, the oldest of which is written over. */
    private static final class Past {
        private static final int HOUR_CELL = 2 * HATS;
        private static final int KIND_CELL = HOUR_CELL + 1;
        private static final int CELLS = KIND_CELL + 1;

        final int[] cells = new int[MOST_UNDONE * CELLS];
        int next;
        int count;

        void clear() {
            count = 0;
        }

        void copy(Past from) {
            copyCells(from.cells, cells);
            next = from.next;
            count = from.count;
        }

        void keep(int kind, Hall hall) {
            int start = next * CELLS;
            for (int hat = 0; hat < HATS; hat++) {
                put(cells, start + hat, at(hall.pegs, hat));
                put(cells, start + HATS + hat, at(hall.knows, hat));
            }
            put(cells, start + HOUR_CELL, hall.hour);
            put(cells, start + KIND_CELL, kind);
            next = (next + 1) % MOST_UNDONE;
            count = Math.min(count + 1, MOST_UNDONE);
        }

        /** Which kind of act was undone; NONE, if there is none. */
        int goBack(Hall hall) {
            if (count <= 0) {
                return NONE;
            }
            count--;
            next = (next + MOST_UNDONE - 1) % MOST_UNDONE;
            int start = next * CELLS;
            for (int hat = 0; hat < HATS; hat++) {
                put(hall.pegs, hat, at(cells, start + hat));
                put(hall.knows, hat, at(cells, start + HATS + hat));
            }
            hall.hour = at(cells, start + HOUR_CELL);
            return at(cells, start + KIND_CELL);
        }
    }

    /** The bytes that texts and rows are read from. */
    private static final class Tape {
        final int[] bytes = new int[TAPE];
        int length;

        void add(int number) {
            for (int shift = 24; shift >= 0; shift -= 8) {
                put(bytes, length, number >> shift & 255);
                length = Math.min(length + 1, TAPE);
            }
        }
    }

    /** A text that was read: the code of its sums and tests, and a row of cells for each clause. */
    private static final class Text {
        final int[] code;
        final int[] rows;
        int length;
        int clauses;

        /** With room for any text. */
        Text() {
            code = new int[TAPE];
            rows = new int[CLAUSES * ROW];
        }

        /** With no more room than that text needs. */
        Text(Text from) {
            code = new int[Math.max(0, Math.min(from.length, TAPE))];
            rows = new int[Math.max(0, Math.min(from.clauses, CLAUSES)) * ROW];
            copyCells(from.code, code);
            copyCells(from.rows, rows);
            length = code.length;
            clauses = from.clauses;
        }

        int cell(int clause, int what) {
            int place = clause * ROW + what;
            return place >= 0 && place < rows.length ? rows[place] : 0;
        }

        void setCell(int clause, int what, int value) {
            put(rows, clause * ROW + what, value);
        }

        void emit(int operation, int number) {
            put(code, length, number << OPERATION_BITS | operation);
            length = Math.min(length + 1, TAPE);
        }

        /** What was emitted at the place jumps to where the next is emitted. */
        void jumpHere(int place, int operation) {
            put(code, place, length << OPERATION_BITS | operation);
        }

        boolean asksForHour() {
            for (int i = 0; i < length; i++) {
                if (at(code, i) == (LAW_HOUR << OPERATION_BITS | WORD)) {
                    return true;
                }
            }
            return false;
        }
    }

    /** Runs the code of sums and tests; both languages' words stand in its cells. */
    private static final class Machine {
        final long[] stack = new long[PARTS + 1];
        final int[] words = new int[WORD_CELLS];
        boolean broken;
        int first;
        int second;

        void setLawWords(Hall hall, int hat, int other, int thought) {
            put(words, 0, hat);
            put(words, 1, at(hall.kinds, hat));
            put(words, 2, at(hall.talls, hat));
            put(words, 3, Integer.bitCount(at(hall.knows, hat)));
            put(words, 4, other);
            put(words, 5, other == NONE ? NONE : at(hall.kinds, other));
            put(words, 6, thought);
            put(words, LAW_HOUR, hall.hour);
            put(words, 8, hall.rain);
        }

        void setOrderWords(Hall hall, int done, int latest) {
            put(words, 0, hall.hour);
            put(words, 1, done);
            put(words, 2, latest);
            put(words, 3, hall.hungCount());
            for (int hat = 0; hat < HATS; hat++) {
                boolean is = hall.hasHat(hat);
                put(words, PEG_CELLS + hat, is ? at(hall.pegs, hat) : NONE);
                put(words, KNOWS_CELLS + hat, is ? Integer.bitCount(at(hall.knows, hat)) : NONE);
            }
        }

        /** A clause's sum or test (0 if it is not so): 1 if there is none, 0 if it is broken. */
        long run(Text text, int clause, int which) {
            int to = Math.min(text.cell(clause, which + 1), text.length);
            int top = 0;
            broken = false;
            long value = 1;
            int goOn = Math.max(text.cell(clause, which), 0);
            for (int i = goOn; i < to && !broken; i++) {
                if (i < goOn) {
                    continue;
                }
                int step = at(text.code, i);
                int operation = step & OPERATION_MASK;
                int number = step >> OPERATION_BITS;
                if (operation == NUMBER || operation == WORD) {
                    put(stack, top, value);
                    top = Math.min(top + 1, PARTS);
                    value = operation == NUMBER ? number : at(words, number);
                } else if (operation == NOT) {
                    value = value == 0 ? 1 : 0;
                } else if (operation == AND || operation == OR) {
                    // what stands behind is asked only if it can still matter
                    if ((value != 0) == (operation == OR)) {
                        goOn = number;
                    } else {
                        top = Math.max(top - 1, 0);
                        value = at(stack, top);
                    }
                } else {
                    top = Math.max(top - 1, 0);
                    value = join(operation, at(stack, top), value);
                }
            }
            return broken ? 0 : value;
        }

        /** Whether a clause's sums can be told; first and second tell them then. */
        boolean runSums(Text text, int clause) {
            first = (int) run(text, clause, FIRST);
            boolean well = !broken;
            second = (int) run(text, clause, SECOND);
            return well && !broken;
        }

        private long join(int operation, long a, long b) {
            if (operation == LESS || operation == MORE || operation == SAME) {
                return (operation == LESS ? a < b : operation == MORE ? a > b : a == b) ? 1 : 0;
            }
            long value = 0;
            if (operation == PLUS) {
                value = a + b;
            } else if (operation == MINUS) {
                value = a - b;
            } else if (operation == PRODUCT) {
                value = a * b;
            } else if (b == 0) {
                broken = true;
            } else {
                value = operation == QUOTIENT ? a / b : a % b;
            }
            broken = broken || value > MOST_STEP || value < -MOST_STEP;
            return value;
        }
    }

    /** Asks laws and lets hours pass, in the hall or on paper. */
    private static final class Night {
        final Machine machine = new Machine();
        final int[] hatsOn = new int[PEGS];
        final int[] told = new int[HATS];

        /** What a law says of a kind: how many are told, what a thought weighs, whether it is barred (1). */
        int answer(Hall hall, Text law, int kind, int hat, int other, int thought) {
            if (law == null) {
                return kind == BARS ? 0 : 1;
            }
            machine.setLawWords(hall, hat, other, thought);
            // from the last one: it is the last that holds that counts
            for (int clause = law.clauses - 1; clause >= 0; clause--) {
                if (law.cell(clause, KIND) == kind && machine.run(law, clause, TEST) != 0) {
                    long value = machine.run(law, clause, FIRST);
                    if (!machine.broken) {
                        int most = kind == TELLS ? MOST_TOLD : MOST_WEIGHT;
                        return (int) Math.max(0, Math.min(value, most));
                    }
                }
            }
            return kind == BARS ? 0 : 1;
        }

        int worth(Hall hall, int hat) {
            int sum = 0;
            for (int thought = 0; thought < THOUGHTS; thought++) {
                if (hall.knowsIt(hat, thought)) {
                    sum += answer(hall, hall.lawInForce(), WEIGHS, hat, NONE, thought);
                }
            }
            return sum;
        }

        int worthOfAll(Hall hall) {
            int sum = 0;
            for (int hat = 0; hat < hall.hats; hat++) {
                sum += worth(hall, hat);
            }
            return sum;
        }

        int toldBy(Hall hall, int hat, int other) {
            int open = at(hall.knows, hat) & ~at(hall.knows, other);
            if (open == 0) {
                return 0;
            }
            Text law = hall.lawInForce();
            int left = answer(hall, law, TELLS, hat, other, NONE);
            int set = 0;
            for (int thought = 0; thought < THOUGHTS && left > 0; thought++) {
                boolean isOpen = (open >> thought & 1) == 1;
                if (isOpen && answer(hall, law, BARS, hat, other, thought) == 0) {
                    set |= 1 << thought;
                    left--;
                }
            }
            return set;
        }

        /** How many thoughts a hat tells to both beside it. */
        int toldByAll(Hall hall, int hat) {
            if (!hall.isHung(hat)) {
                return 0;
            }
            int below = hall.hatOn(at(hall.pegs, hat) - 1);
            int above = hall.hatOn(at(hall.pegs, hat) + 1);
            int sum = below == NONE ? 0 : Integer.bitCount(toldBy(hall, hat, below));
            return sum + (above == NONE ? 0 : Integer.bitCount(toldBy(hall, hat, above)));
        }

        /** How many thoughts were learnt. */
        int oneHour(Hall hall) {
            seat(hall);
            for (int peg = 0; peg + 1 < PEGS; peg++) {
                int low = at(hatsOn, peg);
                int high = at(hatsOn, peg + 1);
                if (low != NONE && high != NONE) {
                    put(told, high, at(told, high) | toldBy(hall, low, high));
                    put(told, low, at(told, low) | toldBy(hall, high, low));
                }
            }
            int learnt = 0;
            for (int hat = 0; hat < hall.hats; hat++) {
                learnt += Integer.bitCount(at(told, hat));
                hall.learn(hat, at(told, hat));
            }
            hall.hour++;
            return learnt;
        }

        private void seat(Hall hall) {
            for (int peg = 0; peg < PEGS; peg++) {
                put(hatsOn, peg, NONE);
            }
            for (int hat = 0; hat < HATS; hat++) {
                put(told, hat, 0);
                if (hall.isHung(hat)) {
                    put(hatsOn, at(hall.pegs, hat), hat);
                }
            }
        }

        void runHours(Hall hall, int n) {
            Text law = hall.lawInForce();
            boolean hoursAreAlike = law == null || !law.asksForHour();
            for (int i = 1; i <= n; i++) {
                // once nothing is told, nothing will be, unless a law looks at the hour
                if (oneHour(hall) == 0 && hoursAreAlike) {
                    hall.hour += n - i;
                    return;
                }
            }
        }
    }

    /** Tries on paper what would be if hats hung otherwise. */
    private static final class Planner {
        final Night night;
        final Hall paper;
        final int[] off = new int[MOST_QUIET_HATS];
        int leastWeight;
        int leastRow;

        Planner(Night night, Hall paper) {
            this.night = night;
            this.paper = paper;
        }

        int bestPeg(Hall hall, int hat, int thought, int other, int n) {
            paper.copy(hall);
            int besides = ((1 << hall.hats) - 1) & ~(1 << hat) & ~(1 << other);
            int best = NONE;
            int fewest = HATS;
            for (int peg = 0; peg < PEGS; peg++) {
                int there = hall.hatOn(peg);
                if (there != NONE && there != hat) {
                    continue;
                }
                paper.copyMoving(hall);
                put(paper.pegs, hat, peg);
                night.runHours(paper, n);
                int knowers = paper.knowersOf(thought, besides);
                if (paper.knowsIt(other, thought) && knowers < fewest) {
                    best = peg;
                    fewest = knowers;
                }
            }
            return best;
        }

        int fewestOff(Hall hall, int hat, int thought) {
            paper.copy(hall);
            int others = hall.hungSet() & ~(1 << hat);
            // with all others off nobody is beside it, so these will do
            int best = others;
            for (int set = 0; set < others; set++) {
                boolean fewer = Integer.bitCount(set) < Integer.bitCount(best);
                if ((set & ~others) == 0 && fewer) {
                    paper.copyMoving(hall);
                    paper.takeAll(set);
                    night.runHours(paper, FAR);
                    best = paper.knowsIt(hat, thought) ? best : set;
                }
            }
            return best;
        }

        /** A row of pegs is a number here, a digit for each hat that is off: so rows rise as numbers do. */
        void hangQuietly(Hall hall, int n) {
            paper.copy(hall);
            int hats = findOff(hall);
            int rows = 1;
            for (int i = 0; i < hats; i++) {
                rows *= PEGS;
            }
            leastWeight = NONE;
            leastRow = 0;
            for (int row = 0; row < rows; row++) {
                paper.copyMoving(hall);
                if (hangRow(row, hats)) {
                    night.runHours(paper, n);
                    int weight = night.worthOfAll(paper);
                    if (leastWeight == NONE || weight < leastWeight) {
                        leastWeight = weight;
                        leastRow = row;
                    }
                }
            }
        }

        private int findOff(Hall hall) {
            int hats = 0;
            for (int hat = 0; hat < hall.hats && hats < off.length; hat++) {
                if (!hall.isHung(hat)) {
                    put(off, hats, hat);
                    hats++;
                }
            }
            return hats;
        }

        private boolean hangRow(int row, int hats) {
            for (int i = 0; i < hats; i++) {
                int peg = pegInRow(row, hats, i);
                if (paper.hatOn(peg) != NONE) {
                    return false;
                }
                put(paper.pegs, at(off, i), peg);
            }
            return true;
        }

        int pegInRow(int row, int hats, int i) {
            int rest = row;
            for (int behind = hats - 1; behind > i; behind--) {
                rest /= PEGS;
            }
            return rest % PEGS;
        }
    }

    /** Reads a text of either language from the tape, token by token. */
    private static final class Reader {
        private static final int LETTER = 0;
        private static final int DIGIT = 1;
        private static final int SINGLE = 2;

        final Tape tape;
        final Text text = new Text();
        int fault = NONE;
        private boolean inOrders;
        private int parts;
        private int brackets;
        // the token is from start to stop; at the end of the text both are its length
        private int start;
        private int stop;

        Reader(Tape tape) {
            this.tape = tape;
        }

        /** Whether the tape is a text of that language; if it is not, fault tells where. */
        boolean read(boolean asOrders) {
            begin(asOrders);
            for (int clause = 0; clause < CLAUSES; clause++) {
                boolean well = inOrders ? readOrder(clause) : readRule(clause);
                if (!well || !readIf(clause)) {
                    return false;
                }
                text.clauses = clause + 1;
                if (start >= tape.length) {
                    return true;
                }
                if (!isSign(';')) {
                    return fails();
                }
                advance();
            }
            return fails();
        }

        private void begin(boolean asOrders) {
            inOrders = asOrders;
            parts = 0;
            brackets = 0;
            stop = 0;
            fault = NONE;
            text.length = 0;
            text.clauses = 0;
            advance();
        }

        private boolean fails() {
            fault = start;
            return false;
        }

        private void advance() {
            start = stop;
            for (; start < tape.length && at(tape.bytes, start) == ' '; start++) {
            }
            stop = start;
            if (start >= tape.length) {
                return;
            }
            int kind = kindOf(at(tape.bytes, start));
            stop++;
            for (; kind != SINGLE && stop < tape.length && kindOf(at(tape.bytes, stop)) == kind; stop++) {
            }
        }

        private static int kindOf(int sign) {
            if (sign >= 'a' && sign <= 'z') {
                return LETTER;
            }
            return sign >= '0' && sign <= '9' ? DIGIT : SINGLE;
        }

        private boolean isSign(char sign) {
            return stop - start == 1 && at(tape.bytes, start) == sign;
        }

        /** Which of the words, with blanks between, the token is. */
        private int wordIn(String words) {
            int index = 0;
            int from = 0;
            for (int i = 0; i <= words.length(); i++) {
                if (i == words.length() || words.charAt(i) == ' ') {
                    if (isWord(words, from, i)) {
                        return index;
                    }
                    index++;
                    from = i + 1;
                }
            }
            return NONE;
        }

        private boolean isWord(String words, int from, int to) {
            if (stop - start != to - from) {
                return false;
            }
            for (int i = Math.max(from, 0); i < to && i < words.length(); i++) {
                int place = start + i - from;
                if (place < 0 || place >= tape.bytes.length || tape.bytes[place] != words.charAt(i)) {
                    return false;
                }
            }
            return true;
        }

        private int numberIn(int least, int most) {
            int value = 0;
            for (int i = start; i < stop; i++) {
                int sign = at(tape.bytes, i);
                if (kindOf(sign) != DIGIT) {
                    return NONE;
                }
                // no number may be that large, so what is cut here is beyond the most anyway
                value = Math.min(value * 10 + sign - '0', MOST_NUMBER + 1);
            }
            return start < stop && value >= least && value <= most ? value : NONE;
        }

        private boolean readRule(int clause) {
            int kind = wordIn(LAW_STARTS);
            if (kind == NONE) {
                return fails();
            }
            advance();
            text.setCell(clause, KIND, kind);
            return kind == BARS ? readNothing(clause, FIRST) : readSumOf(clause, FIRST);
        }

        private boolean readOrder(int clause) {
            int kind = wordIn(ORDER_STARTS);
            if (kind == NONE) {
                return fails();
            }
            advance();
            text.setCell(clause, KIND, kind);
            boolean well = kind == PASS ? readNothing(clause, FIRST) : readSumOf(clause, FIRST);
            if (well && kind == HANG) {
                well = readWord("on") && readSumOf(clause, SECOND);
            } else if (well && kind == THINK) {
                well = readWord("in") && readSumOf(clause, SECOND);
            } else if (well) {
                well = readNothing(clause, SECOND);
            }
            return well && readTimes(clause);
        }

        private boolean readWord(String word) {
            if (wordIn(word) == NONE) {
                return fails();
            }
            advance();
            return true;
        }

        private boolean readNothing(int clause, int which) {
            text.setCell(clause, which, text.length);
            text.setCell(clause, which + 1, text.length);
            return true;
        }

        private boolean readSumOf(int clause, int which) {
            text.setCell(clause, which, text.length);
            boolean well = readSum();
            text.setCell(clause, which + 1, text.length);
            return well;
        }

        private boolean readTimes(int clause) {
            text.setCell(clause, REPEATS, 1);
            if (wordIn("times") == NONE) {
                return true;
            }
            advance();
            int times = numberIn(1, MOST_TIMES);
            if (times == NONE) {
                return fails();
            }
            advance();
            text.setCell(clause, REPEATS, times);
            return true;
        }

        private boolean readIf(int clause) {
            if (wordIn("if") == NONE) {
                return readNothing(clause, TEST);
            }
            advance();
            text.setCell(clause, TEST, text.length);
            boolean well = readTest();
            text.setCell(clause, TEST + 1, text.length);
            return well;
        }

        private boolean readTest() {
            boolean well = readBoth();
            for (int i = 0; i < TAPE && well && wordIn("or") != NONE; i++) {
                int jump = text.length;
                text.emit(OR, 0);
                advance();
                well = readBoth();
                text.jumpHere(jump, OR);
            }
            return well;
        }

        private boolean readBoth() {
            boolean well = readPlain();
            for (int i = 0; i < TAPE && well && wordIn("and") != NONE; i++) {
                int jump = text.length;
                text.emit(AND, 0);
                advance();
                well = readPlain();
                text.jumpHere(jump, AND);
            }
            return well;
        }

        private boolean readPlain() {
            boolean turned = false;
            for (int i = 0; i < TAPE && wordIn("not") != NONE; i++) {
                turned = !turned;
                advance();
            }
            boolean well;
            if (isSign('(')) {
                well = opens() && readTest() && closes(')');
            } else {
                well = readSum();
                int operation = isSign('<') ? LESS : isSign('>') ? MORE : isSign('=') ? SAME : NONE;
                if (well && operation == NONE) {
                    return fails();
                }
                if (well) {
                    advance();
                    well = readSum();
                    text.emit(operation, 0);
                }
            }
            if (well && turned) {
                text.emit(NOT, 0);
            }
            return well;
        }

        /** The brackets that are open bound how deep tests and sums call one another. */
        private boolean opens() {
            if (brackets >= BRACKETS) {
                return fails();
            }
            brackets++;
            advance();
            return true;
        }

        private boolean closes(char sign) {
            if (!isSign(sign)) {
                return fails();
            }
            brackets--;
            advance();
            return true;
        }

        private boolean readSum() {
            boolean well = readTerm();
            for (int i = 0; i < TAPE && well && (isSign('+') || isSign('-')); i++) {
                int operation = isSign('+') ? PLUS : MINUS;
                advance();
                well = readTerm();
                text.emit(operation, 0);
            }
            return well;
        }

        private boolean readTerm() {
            boolean well = readPart();
            for (int i = 0; i < TAPE && well && (isSign('*') || isSign('/') || isSign('%')); i++) {
                int operation = isSign('*') ? PRODUCT : isSign('/') ? QUOTIENT : REST;
                advance();
                well = readPart();
                text.emit(operation, 0);
            }
            return well;
        }

        private boolean readPart() {
            if (isSign('[')) {
                return opens() && readSum() && closes(']');
            }
            int number = numberIn(0, MOST_NUMBER);
            int word = wordIn(inOrders ? ORDER_WORDS : LAW_WORDS);
            if (number == NONE && word == NONE || parts >= PARTS) {
                return fails();
            }
            parts++;
            advance();
            if (inOrders && word >= ORDER_PEG) {
                return readHat(word);
            }
            text.emit(number == NONE ? WORD : NUMBER, number == NONE ? word : number);
            return true;
        }

        private boolean readHat(int word) {
            int hat = numberIn(0, HATS - 1);
            if (hat == NONE) {
                return fails();
            }
            advance();
            text.emit(WORD, hat + (word == ORDER_KNOWS ? KNOWS_CELLS : PEG_CELLS));
            return true;
        }
    }
}
