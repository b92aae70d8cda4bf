import java.util.Arrays;
import java.util.NoSuchElementException;

/**
 * Loose ends kept on spools. The document ../shared/DOC.md says what each call
 * does; the words in capitals here are that document's terms.
 */
public final class LooseEnds {
    public static final int NONE = -1;
    public static final int HIDDEN = -1000000;

    private static final int NO_SUCH_SORT = -2;
    private static final int AS_MILL = 0;
    private static final int AS_LAW = 1;

    private static final int LEAST_ENDS = 2;
    private static final int MOST_ENDS = 7;
    private static final int MOST_BYTES = 240;
    private static final int MOST_LAWS = 4;
    private static final int MOST_COINS = 9999;
    private static final int MOST_GIVEN = 50;
    private static final int DYE_COINS = 2;
    private static final int MOST_COLOUR = 20;
    private static final int MOST_PLY = 6;
    private static final int LAST_DAY = 999;
    private static final int MOST_DAYS = 60;
    private static final int MOST_WAKES = 9;
    private static final int MOST_BLANKET = 140;
    private static final int MOST_SHARED = 999;

    private static final int NO_SUCH = 0;
    private static final int OUT_OF_BOUNDS = 1;
    private static final int IT_IS_SO = 2;
    private static final int TOO_FEW = 3;
    private static final int BEYOND = 4;
    private static final int STATUS_KINDS = 5;

    private final Tape tape = new Tape();
    private final Mill mill = new Mill();
    private final MillReader millReader = new MillReader(tape);
    private final LawReader lawReader = new LawReader(tape);
    private final Judge judge = new Judge(mill);
    private final State now = new State();
    private final Memory memory = new Memory();
    private final Works works = new Works(mill, judge, memory);
    private final Advice advice = new Advice(mill, works, now);
    private final Sightings sightings = new Sightings(mill, judge);
    private final Duel duel = new Duel(mill, judge, now);
    private final int[] refused = new int[STATUS_KINDS];
    private int waking = 1;

    public LooseEnds() {
    }

    // ---- texts

    public int feed(int a, int b, int c, int d, int e) {
        int more = Tape.bytesIn(a) + Tape.bytesIn(b) + Tape.bytesIn(c) + Tape.bytesIn(d) + Tape.bytesIn(e);
        if (tape.length + more > MOST_BYTES) {
            return NONE;
        }
        tape.put(a);
        tape.put(b);
        tape.put(c);
        tape.put(d);
        tape.put(e);
        return tape.length;
    }

    public boolean end(int n) {
        if (n < 0 || n > tape.length) {
            return false;
        }
        tape.length = n;
        return true;
    }

    public int fault(int sort) {
        if (sort == AS_MILL) {
            return millReader.read();
        }
        if (sort == AS_LAW) {
            return lawReader.read();
        }
        return NO_SUCH_SORT;
    }

    public int text(int sort) {
        if (sort == AS_MILL) {
            return takeMill();
        }
        if (sort == AS_LAW) {
            return takeLaw();
        }
        return NONE;
    }

    private int takeMill() {
        if (millReader.read() != NONE) {
            return NONE;
        }
        mill.copyFrom(millReader.draft);
        now.begin(mill);
        memory.forget();
        sightings.size = 0;
        tape.length = 0;
        return mill.ends;
    }

    private int takeLaw() {
        if (judge.size == MOST_LAWS || lawReader.read() != NONE) {
            return NONE;
        }
        tape.length = 0;
        return judge.add(lawReader.steps, lawReader.size);
    }

    // ---- the mill as it is

    public int rule(int what) {
        if (!mill.isThere()) {
            return NONE;
        }
        switch (what) {
            case 0: return mill.pass;
            case 1: return mill.fade;
            case 2: return mill.girls;
            case 3: return now.coins;
            default: return NONE;
        }
    }

    public int thread(int end, int what) throws NoSuchElementException {
        if (!mill.has(end) || what < 0 || what > 5) {
            throw new NoSuchElementException("no such END, or nothing such of it");
        }
        switch (what) {
            case 0: return now.colours[end];
            case 1: return mill.plies[end];
            case 2: return now.lengths[end];
            case 3: return now.isSold(end) ? 1 : 0;
            case 4: return now.behind[end];
            default: return now.ahead[end];
        }
    }

    public boolean law(int law) {
        if (law < NONE || law >= judge.size) {
            return false;
        }
        judge.holding = law;
        return true;
    }

    // ---- acts

    public int attempt(int one, int other) {
        int refusal = works.tryRefusal(now, one, other);
        if (refusal != NONE) {
            return refuse(refusal);
        }
        memory.keep(now);
        return works.tryOn(now, one, other) ? 1 : 0;
    }

    public int pull(int end) {
        int refusal = works.pullRefusal(now, end);
        if (refusal != NONE) {
            return refuse(refusal);
        }
        memory.keep(now);
        return now.takeOff(end);
    }

    public int sell(int end) {
        int refusal = sellRefusal(end);
        if (refusal != NONE) {
            return refuse(refusal);
        }
        memory.keep(now);
        int tale = now.taleOf(end);
        now.coins = Math.min(MOST_COINS, now.coins + now.priceOf(tale));
        now.sold |= tale;
        return now.coins;
    }

    private int sellRefusal(int end) {
        if (!mill.has(end)) {
            return NO_SUCH;
        }
        if (now.ahead[end] != NONE) {
            return OUT_OF_BOUNDS;
        }
        if (now.isSold(end)) {
            return IT_IS_SO;
        }
        return now.behind[end] == NONE ? TOO_FEW : NONE;
    }

    public int dye(int end, int colour) {
        int refusal = dyeRefusal(end, colour);
        if (refusal != NONE) {
            return refuse(refusal);
        }
        memory.keep(now);
        int was = now.colours[end];
        now.colours[end] = colour;
        now.coins -= DYE_COINS;
        return was;
    }

    private int dyeRefusal(int end, int colour) {
        if (!mill.has(end)) {
            return NO_SUCH;
        }
        if (colour < 0 || colour > MOST_COLOUR) {
            return OUT_OF_BOUNDS;
        }
        if (!now.isLoose(end) || now.colours[end] == colour) {
            return IT_IS_SO;
        }
        return now.coins < DYE_COINS ? TOO_FEW : NONE;
    }

    public int give(int n) {
        if (!mill.isThere()) {
            return refuse(NO_SUCH);
        }
        if (n < 1 || n > MOST_GIVEN || now.coins + n > MOST_COINS) {
            return refuse(OUT_OF_BOUNDS);
        }
        memory.keep(now);
        now.coins += n;
        return now.coins;
    }

    public int days(int n) {
        if (!mill.isThere()) {
            return refuse(NO_SUCH);
        }
        if (n < 1 || n > MOST_DAYS) {
            return refuse(OUT_OF_BOUNDS);
        }
        if (now.day + n > LAST_DAY) {
            return refuse(BEYOND);
        }
        for (int i = 0; i < n; i++) {
            memory.keep(now);
            works.passDay(now);
        }
        return now.day;
    }

    private int refuse(int kind) {
        if (kind >= 0 && kind < STATUS_KINDS) {
            refused[kind]++;
        }
        return NONE;
    }

    public boolean wakes(int v) {
        if (v < 0 || v > MOST_WAKES || v == waking) {
            return false;
        }
        waking = v;
        return true;
    }

    public int years(int n, long seed) {
        if (!mill.isThere() || n < 1 || n > MOST_DAYS || now.day + n > LAST_DAY) {
            return NONE;
        }
        works.seed = seed;
        for (int i = 0; i < n; i++) {
            memory.keep(now);
            works.drawDay(now, waking);
        }
        return now.day;
    }

    public int status(int what) {
        return what >= 0 && what < STATUS_KINDS ? refused[what] : NONE;
    }

    public int undo() {
        return memory.bringBackLatest(now) ? memory.size : NONE;
    }

    public int log(int i, int what) {
        return memory.readDay(now.day, i, what);
    }

    // ---- what could be

    public int fits(int one, int other) {
        if (!mill.has(one) || !mill.has(other) || one == other) {
            return NONE;
        }
        return works.goesWith(now, one, other, now.sizeOf(one)) ? 1 : 0;
    }

    public int could(int end) {
        return mill.has(end) ? advice.partnersOf(end) : NONE;
    }

    public int knots(int what) {
        if (!mill.isThere() || what < 0 || what > 1) {
            return NONE;
        }
        advice.findKnots();
        return what == 0 ? advice.bestRow : advice.best;
    }

    public int tale(int what) {
        if (!mill.isThere() || what < 0 || what > 1) {
            return NONE;
        }
        advice.findTale();
        return what == 0 ? advice.bestRow : advice.best;
    }

    public int plan(int n, int what) {
        if (!mill.isThere() || n < 1 || n > 2 || what < 0 || what > 1) {
            return NONE;
        }
        if (n == 1) {
            advice.findTry(now);
        } else {
            advice.findTwoTries();
        }
        return what == 0 ? advice.bestRow : advice.best;
    }

    public int blankets(int w) {
        if (!mill.isThere() || w < 1 || w > MOST_BLANKET) {
            return NONE;
        }
        return advice.fewestBlankets(w);
    }

    public int seen(int one, int other, boolean is) {
        if (!mill.has(one) || !mill.has(other) || one == other) {
            return NONE;
        }
        return sightings.add(one, other, is);
    }

    public int plies(int end, int i) {
        if (!mill.has(end)) {
            return NONE;
        }
        int fitting = sightings.fittingPlies(end);
        return i == NONE ? Integer.bitCount(fitting) : bitAt(fitting, i);
    }

    /** The i-th of the numbers that bits tell, rising; NONE if there are fewer. */
    private static int bitAt(int bits, int i) {
        int left = i;
        for (int k = 0; k <= MOST_PLY && left >= 0; k++) {
            if ((bits >> k & 1) == 1) {
                if (left == 0) {
                    return k;
                }
                left--;
            }
        }
        return NONE;
    }

    public int ask(int end) {
        return mill.has(end) ? sightings.bestToTry(end, sightings.fittingPlies(end)) : NONE;
    }

    public int game(int one, int other, int x, int y, int what) {
        if (!mill.has(one) || !mill.has(other) || one == other || what < 0 || what > 1) {
            return HIDDEN;
        }
        if (!Duel.isMove(x) || !Duel.isMove(y)) {
            return HIDDEN;
        }
        return what == 0 ? duel.has(one, other, x, y) : duel.has(other, one, y, x);
    }

    public int rests(int one, int other, int i) {
        if (!mill.has(one) || !mill.has(other) || one == other) {
            return NONE;
        }
        duel.play(one, other);
        return i == NONE ? duel.countRests() : duel.restAt(i);
    }

    public int odds(int end, int chance) {
        if (!mill.has(end) || chance < 0 || chance > 100) {
            return NONE;
        }
        return advice.knottedParts(end, chance);
    }

    // ---- what is

    public int story(int end, int what) {
        if (!mill.has(end)) {
            return NONE;
        }
        switch (what) {
            case 0: return now.firstOf(end);
            case 1: return now.lastOf(end);
            case 2: return now.sizeOf(end);
            case 3: return now.lengthOf(now.taleOf(end));
            case 4: return now.isSold(end) ? 0 : now.neighboursOf(end);
            default: return NONE;
        }
    }

    public int shares(int end, int c) {
        if (!mill.has(end) || c < 0 || c > MOST_SHARED) {
            return NONE;
        }
        int all = now.lengthOf((1 << mill.ends) - 1);
        return all > 0 ? c * now.lengths[end] / all : NONE;
    }

    public int most(int what) {
        if (!mill.isThere()) {
            return NONE;
        }
        switch (what) {
            case 0: return highest(now.lengths);
            case 1: return highest(now.colours);
            case 2: return highest(mill.plies);
            case 3: return now.looseBits();
            case 4: return now.sold;
            case 5: return advice.rackBits();
            case 6: return advice.countTales();
            case 7: return advice.priceOfTales();
            default: return NONE;
        }
    }

    private int highest(int[] values) {
        int found = 0;
        for (int end = 1; end < mill.ends && end < values.length; end++) {
            if (values[end] > values[found]) {
                found = end;
            }
        }
        return found;
    }

    public int image() {
        if (!mill.isThere()) {
            return NONE;
        }
        memory.keepImage(now);
        return now.day;
    }

    public int back() {
        return memory.bringBackImage(now) ? now.day : NONE;
    }

    public int count(int what) {
        switch (what) {
            case 0: return mill.ends;
            case 1: return judge.size;
            case 2: return tape.length;
            case 3: return judge.holding;
            case 4: return now.day;
            case 5: return now.tries;
            case 6: return waking;
            case 7: return sightings.size;
            case 8: return Memory.loggedBy(now.day);
            case 9: return memory.size;
            default: return HIDDEN;
        }
    }

    /** The TAPE, and a place on it for who reads it: at a FAULT that place stands at the byte that is wrong. */
    private static final class Tape {
        static final int OVER = -1;
        private static final int BLANK = 32;
        private final int[] bytes = new int[MOST_BYTES];
        int length;
        int at;

        static int bytesIn(int number) {
            int found = 0;
            for (int shift = 24; shift >= 0; shift -= 8) {
                if ((number >>> shift & 255) != 0) {
                    found++;
                }
            }
            return found;
        }

        void put(int number) {
            for (int shift = 24; shift >= 0; shift -= 8) {
                int value = number >>> shift & 255;
                if (value != 0 && length < bytes.length) {
                    bytes[length] = value;
                    length++;
                }
            }
        }

        /** The next byte that is no blank, or OVER: the place stands at it then. */
        int sign() {
            while (at < length && bytes[at] == BLANK) {
                at++;
            }
            return at < length ? bytes[at] : OVER;
        }

        /** Goes beyond the next sign, if it is the one that is wanted. */
        boolean take(int wanted) {
            if (sign() != wanted) {
                return false;
            }
            at++;
            return true;
        }

        /** The number that comes next; NONE, if there is none or it has too many digits: the place tells where. */
        int number(int mostDigits) {
            int value = 0;
            int digits = 0;
            sign();
            for (; at < length && isDigit(bytes[at]); at++) {
                if (digits == mostDigits) {
                    return NONE;
                }
                value = value * 10 + bytes[at] - '0';
                digits++;
            }
            return digits == 0 ? NONE : value;
        }

        static boolean isDigit(int value) {
            return value >= '0' && value <= '9';
        }
    }

    /** A MILL as told: nothing here changes till another one is told. */
    private static final class Mill {
        int ends;
        int pass;
        int fade;
        int girls;
        int coins;
        final int[] colours = new int[MOST_ENDS];
        final int[] plies = new int[MOST_ENDS];
        final int[] lengths = new int[MOST_ENDS];

        boolean isThere() {
            return ends > 0;
        }

        boolean has(int end) {
            return end >= 0 && end < ends;
        }

        void clear() {
            ends = 0;
            pass = 2;
            fade = 1;
            girls = 4;
            coins = 20;
        }

        void addEnd() {
            if (ends < MOST_ENDS) {
                colours[ends] = 10;
                plies[ends] = 2;
                lengths[ends] = 5;
                ends++;
            }
        }

        void copyFrom(Mill from) {
            ends = from.ends;
            pass = from.pass;
            fade = from.fade;
            girls = from.girls;
            coins = from.coins;
            System.arraycopy(from.colours, 0, colours, 0, MOST_ENDS);
            System.arraycopy(from.plies, 0, plies, 0, MOST_ENDS);
            System.arraycopy(from.lengths, 0, lengths, 0, MOST_ENDS);
        }
    }

    /** Reads the TAPE as a MILL into a draft, so that a FAULT leaves the MILL as it is. */
    private static final class MillReader {
        private static final int NO_ITEM = -1;
        private static final int FIRST_OF_END = 4;
        private static final int[] LEAST = {0, 0, 1, 0, 0, 1, 1};
        private static final int[] MOST = {9, 9, 9, 99, 20, 6, 20};
        private final Tape tape;
        final Mill draft = new Mill();

        MillReader(Tape tape) {
            this.tape = tape;
        }

        /** The FAULT, or NONE. */
        int read() {
            boolean ruled = false;
            draft.clear();
            tape.at = 0;
            for (int clause = 0; clause <= MOST_BYTES; clause++) {
                int sign = tape.sign();
                if (sign == 's' && !ruled) {
                    ruled = true;
                } else if (sign == 't' && draft.ends < MOST_ENDS) {
                    draft.addEnd();
                } else {
                    return tape.at;
                }
                tape.at++;
                if (!readItems(sign)) {
                    return tape.at;
                }
                if (tape.sign() == Tape.OVER) {
                    return draft.ends < LEAST_ENDS ? tape.at : NONE;
                }
                if (!tape.take(';')) {
                    return tape.at;
                }
            }
            return tape.at;
        }

        private boolean readItems(int clause) {
            int had = 0;
            for (int i = 0; i <= LEAST.length; i++) {
                int item = itemOf(clause, tape.sign());
                if (item == NO_ITEM) {
                    return true;
                }
                if ((had >> item & 1) == 1) {
                    return false;
                }
                had |= 1 << item;
                tape.at++;
                if (!readNumber(item)) {
                    return false;
                }
            }
            return true;
        }

        private static int itemOf(int clause, int sign) {
            if (clause == 's') {
                switch (sign) {
                    case 'e': return 0;
                    case 'f': return 1;
                    case 'g': return 2;
                    case 'k': return 3;
                    default: return NO_ITEM;
                }
            }
            switch (sign) {
                case 'c': return FIRST_OF_END;
                case 'p': return FIRST_OF_END + 1;
                case 'l': return FIRST_OF_END + 2;
                default: return NO_ITEM;
            }
        }

        private boolean readNumber(int item) {
            int value = tape.number(2);
            if (value == NONE || item < 0 || item >= LEAST.length) {
                return false;
            }
            if (value < LEAST[item] || value > MOST[item]) {
                // the number is wrong at its last digit, beyond which the place stands
                tape.at--;
                return false;
            }
            write(item, value);
            return true;
        }

        private void write(int item, int value) {
            int end = draft.ends - 1;
            if (item == 0) {
                draft.pass = value;
            } else if (item == 1) {
                draft.fade = value;
            } else if (item == 2) {
                draft.girls = value;
            } else if (item == 3) {
                draft.coins = value;
            } else if (end >= 0) {
                writeOfEnd(item, end, value);
            }
        }

        private void writeOfEnd(int item, int end, int value) {
            if (item == FIRST_OF_END) {
                draft.colours[end] = value;
            } else if (item == FIRST_OF_END + 1) {
                draft.plies[end] = value;
            } else {
                draft.lengths[end] = value;
            }
        }
    }

    /**
     * Reads the TAPE as a LAW into a row of steps for the Judge, each sign of
     * reckoning behind what it reckons with. No step is written for y and : ,
     * so there are fewer steps than bytes.
     */
    private static final class LawReader {
        private static final int DEEPEST = 6;
        private static final int MOST_DIGITS = 4;
        private final Tape tape;
        final int[] steps = new int[MOST_BYTES];
        int size;

        LawReader(Tape tape) {
            this.tape = tape;
        }

        /** The FAULT, or NONE. */
        int read() {
            size = 0;
            tape.at = 0;
            for (int clause = 0; clause <= MOST_BYTES; clause++) {
                if (!readClause()) {
                    return tape.at;
                }
                if (tape.sign() == Tape.OVER) {
                    return NONE;
                }
                if (!tape.take(';')) {
                    return tape.at;
                }
            }
            return tape.at;
        }

        private void write(int step) {
            if (size < steps.length) {
                steps[size] = step;
                size++;
            }
        }

        private boolean readClause() {
            if (!tape.take('y') || !tape.take(':')) {
                return false;
            }
            int sign = tape.sign();
            boolean begun = sign != '!' && sign != '(';
            if (begun && !readSum(0)) {
                return false;
            }
            if (!begun || isComparison(tape.sign())) {
                return readConditioned(begun);
            }
            write(Judge.DONE);
            return true;
        }

        private boolean readConditioned(boolean begun) {
            if (!readCondition(0, begun) || !tape.take('?')) {
                return false;
            }
            int jump = size;
            write(Judge.JUMP);
            if (!readSum(0)) {
                return false;
            }
            write(Judge.DONE);
            if (jump < steps.length) {
                steps[jump] = Judge.JUMP + size;
            }
            return true;
        }

        /** A condition of which, when begun, the first SUM has been read. */
        private boolean readCondition(int depth, boolean begun) {
            if (!readTruth(depth, begun)) {
                return false;
            }
            for (int i = 0; i < MOST_BYTES && tape.take('|'); i++) {
                if (!readTruth(depth, false)) {
                    return false;
                }
                write(Judge.OR);
            }
            return true;
        }

        private boolean readTruth(int depth, boolean begun) {
            if (begun ? !readComparison(depth) : !readUnit(depth)) {
                return false;
            }
            for (int i = 0; i < MOST_BYTES && tape.take('&'); i++) {
                if (!readUnit(depth)) {
                    return false;
                }
                write(Judge.AND);
            }
            return true;
        }

        private boolean readUnit(int depth) {
            int sign = tape.sign();
            if (sign != '!' && sign != '(') {
                return readSum(depth) && readComparison(depth);
            }
            if (depth >= DEEPEST) {
                return false;
            }
            tape.at++;
            if (sign == '(') {
                return readCondition(depth + 1, false) && tape.take(')');
            }
            if (!readUnit(depth + 1)) {
                return false;
            }
            write(Judge.NOT);
            return true;
        }

        private static boolean isComparison(int sign) {
            return sign == '=' || sign == '<' || sign == '>';
        }

        private boolean readComparison(int depth) {
            int sign = tape.sign();
            if (!isComparison(sign)) {
                return false;
            }
            tape.at++;
            if (!readSum(depth)) {
                return false;
            }
            write(sign == '=' ? Judge.EQUAL : sign == '<' ? Judge.LESS : Judge.MORE);
            return true;
        }

        private boolean readSum(int depth) {
            if (!readTerm(depth)) {
                return false;
            }
            for (int i = 0; i < MOST_BYTES; i++) {
                int sign = tape.sign();
                if (sign != '+' && sign != '-') {
                    return true;
                }
                tape.at++;
                if (!readTerm(depth)) {
                    return false;
                }
                write(sign == '+' ? Judge.PLUS : Judge.MINUS);
            }
            return true;
        }

        private boolean readTerm(int depth) {
            if (!readAtom(depth)) {
                return false;
            }
            for (int i = 0; i < MOST_BYTES; i++) {
                int sign = tape.sign();
                if (sign != '*' && sign != '/') {
                    return true;
                }
                tape.at++;
                if (!readAtom(depth)) {
                    return false;
                }
                write(sign == '*' ? Judge.TIMES : Judge.BY);
            }
            return true;
        }

        private boolean readAtom(int depth) {
            int sign = tape.sign();
            if (Tape.isDigit(sign)) {
                return readNumber();
            }
            if (sign == '[') {
                if (depth >= DEEPEST) {
                    return false;
                }
                tape.at++;
                return readSum(depth + 1) && tape.take(']');
            }
            int letter = letterOf(sign);
            if (letter == NONE) {
                return false;
            }
            tape.at++;
            write(Judge.LETTER + letter);
            return true;
        }

        private boolean readNumber() {
            int value = tape.number(MOST_DIGITS);
            if (value == NONE) {
                return false;
            }
            write(value);
            return true;
        }

        private static int letterOf(int sign) {
            switch (sign) {
                case 'c': return 0;
                case 'p': return 1;
                case 'l': return 2;
                case 'e': return 3;
                case 'n': return 4;
                case 't': return 5;
                default: return NONE;
            }
        }
    }

    /** The LAWS, which of them holds, and what they say. */
    private static final class Judge {
        // steps below LETTER are the numbers of the LAW themselves
        static final int LETTER = 10000;
        static final int PLUS = 10010;
        static final int MINUS = 10011;
        static final int TIMES = 10012;
        static final int BY = 10013;
        static final int EQUAL = 10014;
        static final int LESS = 10015;
        static final int MORE = 10016;
        static final int AND = 10017;
        static final int OR = 10018;
        static final int NOT = 10019;
        static final int DONE = 10020;
        // JUMP and the step to go on with, where a CONDITION does not hold
        static final int JUMP = 20000;
        private static final int MOST_LETTERS = 6;
        // six brackets deep, with two numbers waiting at each, need some twenty
        private static final int STACK = 64;
        private static final int BOUND = 1000000;
        private final Mill mill;
        private final int[][] laws = new int[MOST_LAWS][0];
        private final int[] letters = new int[MOST_LETTERS];
        private final int[] stack = new int[STACK];
        int size;
        int holding = NONE;

        Judge(Mill mill) {
            this.mill = mill;
        }

        int add(int[] steps, int length) {
            if (size >= MOST_LAWS || length < 0 || length > steps.length) {
                return NONE;
            }
            laws[size] = Arrays.copyOf(steps, length);
            size++;
            return size - 1;
        }

        /** Whether one GOES WITH another, told by how far they are apart, LENGTH of both, n and the DAY. */
        boolean allows(int colours, int plies, int length, int n, int day) {
            if (holding < 0 || holding >= size) {
                return mill.pass + 1 - colours - 2 * plies > 0;
            }
            letters[0] = colours;
            letters[1] = plies;
            letters[2] = length;
            letters[3] = mill.pass;
            letters[4] = n;
            letters[5] = day;
            return worth(laws[holding]) > 0;
        }

        private int worth(int[] steps) {
            int top = 0;
            for (int i = 0; i < steps.length; i++) {
                int step = steps[i];
                if (step < PLUS) {
                    if (top >= STACK) {
                        return 0;
                    }
                    stack[top] = valueOf(step);
                    top++;
                } else if (step < NOT) {
                    if (top < 2) {
                        return 0;
                    }
                    top--;
                    long value = reckon(step, stack[top - 1], stack[top]);
                    stack[top - 1] = (int) Math.max(-BOUND, Math.min(BOUND, value));
                } else if (top < 1) {
                    return 0;
                } else if (step == NOT) {
                    stack[top - 1] = 1 - stack[top - 1];
                } else if (step == DONE) {
                    return stack[top - 1];
                } else {
                    top--;
                    // jumps go forwards alone, so that each step is done once at most
                    i = stack[top] == 0 ? Math.max(i, step - JUMP - 1) : i;
                }
            }
            return 0;
        }

        private int valueOf(int step) {
            int letter = step - LETTER;
            return letter >= 0 && letter < MOST_LETTERS ? letters[letter] : step;
        }

        private static long reckon(int step, long a, long b) {
            switch (step) {
                case PLUS: return a + b;
                case MINUS: return a - b;
                case TIMES: return a * b;
                case BY: return b == 0 ? 0 : a / b;
                case EQUAL: return a == b ? 1 : 0;
                case LESS: return a < b ? 1 : 0;
                case MORE: return a > b ? 1 : 0;
                case AND: return a & b;
                default: return a | b;
            }
        }
    }

    /** All that ACTS change but the LOG. Whoever hands in an END has looked whether there is such a one. */
    private static final class State {
        // four numbers of each END, five more: so many a row needs that keeps it all
        static final int CELLS = 4 * MOST_ENDS + 5;
        final int[] colours = new int[MOST_ENDS];
        final int[] lengths = new int[MOST_ENDS];
        final int[] behind = new int[MOST_ENDS];
        final int[] ahead = new int[MOST_ENDS];
        int ends;
        int sold;
        int tries;
        int made;
        int coins;
        int day;

        /** Writes all of it into a row from a place on. */
        void writeTo(int[] row, int at) {
            if (at < 0 || at > row.length - CELLS) {
                return;
            }
            System.arraycopy(colours, 0, row, at, MOST_ENDS);
            System.arraycopy(lengths, 0, row, at + MOST_ENDS, MOST_ENDS);
            System.arraycopy(behind, 0, row, at + 2 * MOST_ENDS, MOST_ENDS);
            System.arraycopy(ahead, 0, row, at + 3 * MOST_ENDS, MOST_ENDS);
            int rest = at + 4 * MOST_ENDS;
            row[rest] = sold;
            row[rest + 1] = tries;
            row[rest + 2] = made;
            row[rest + 3] = coins;
            row[rest + 4] = day;
        }

        void readFrom(int[] row, int at) {
            if (at < 0 || at > row.length - CELLS) {
                return;
            }
            System.arraycopy(row, at, colours, 0, MOST_ENDS);
            System.arraycopy(row, at + MOST_ENDS, lengths, 0, MOST_ENDS);
            System.arraycopy(row, at + 2 * MOST_ENDS, behind, 0, MOST_ENDS);
            System.arraycopy(row, at + 3 * MOST_ENDS, ahead, 0, MOST_ENDS);
            int rest = at + 4 * MOST_ENDS;
            sold = row[rest];
            tries = row[rest + 1];
            made = row[rest + 2];
            coins = row[rest + 3];
            day = row[rest + 4];
        }

        void begin(Mill mill) {
            ends = mill.ends;
            System.arraycopy(mill.colours, 0, colours, 0, MOST_ENDS);
            System.arraycopy(mill.lengths, 0, lengths, 0, MOST_ENDS);
            Arrays.fill(behind, NONE);
            Arrays.fill(ahead, NONE);
            sold = 0;
            tries = 0;
            made = 0;
            coins = mill.coins;
            day = 0;
        }

        void copyFrom(State from) {
            System.arraycopy(from.colours, 0, colours, 0, MOST_ENDS);
            System.arraycopy(from.lengths, 0, lengths, 0, MOST_ENDS);
            System.arraycopy(from.behind, 0, behind, 0, MOST_ENDS);
            System.arraycopy(from.ahead, 0, ahead, 0, MOST_ENDS);
            ends = from.ends;
            sold = from.sold;
            tries = from.tries;
            made = from.made;
            coins = from.coins;
            day = from.day;
        }

        boolean isSold(int end) {
            return (sold >> end & 1) == 1;
        }

        boolean isKnotted(int end) {
            return behind[end] != NONE || ahead[end] != NONE;
        }

        boolean isLoose(int end) {
            return !isSold(end) && !isKnotted(end);
        }

        int looseBits() {
            int bits = 0;
            for (int end = 0; end < ends; end++) {
                if (isLoose(end)) {
                    bits |= 1 << end;
                }
            }
            return bits;
        }

        int firstOf(int end) {
            int at = end;
            for (int i = 0; i < ends && ahead[at] != NONE; i++) {
                at = ahead[at];
            }
            return at;
        }

        int lastOf(int end) {
            int at = end;
            for (int i = 0; i < ends && behind[at] != NONE; i++) {
                at = behind[at];
            }
            return at;
        }

        /** All ENDS of its TALE, as bits. */
        int taleOf(int end) {
            int bits = 0;
            int at = firstOf(end);
            for (int i = 0; i < ends && at != NONE; i++) {
                bits |= 1 << at;
                at = behind[at];
            }
            return bits;
        }

        /** How many ENDS are in its TALE. */
        int sizeOf(int end) {
            return Integer.bitCount(taleOf(end));
        }

        int lengthOf(int bits) {
            int sum = 0;
            for (int end = 0; end < ends; end++) {
                if ((bits >> end & 1) == 1) {
                    sum += lengths[end];
                }
            }
            return sum;
        }

        int priceOf(int tale) {
            return lengthOf(tale) * Integer.bitCount(tale) / 4;
        }

        int neighboursOf(int end) {
            int bits = 0;
            if (behind[end] != NONE) {
                bits |= 1 << behind[end];
            }
            if (ahead[end] != NONE) {
                bits |= 1 << ahead[end];
            }
            return bits;
        }

        /** Whether one could be TRIED with the other, GIRLS left aside. */
        boolean isOpen(int one, int other) {
            return one != other && !isSold(one) && !isSold(other)
                && behind[one] == NONE && ahead[other] == NONE && firstOf(one) != other;
        }

        void join(int one, int other) {
            behind[one] = other;
            ahead[other] = one;
        }

        void part(int one, int other) {
            behind[one] = NONE;
            ahead[other] = NONE;
        }

        void fadeBy(int end, int by) {
            colours[end] = Math.max(0, colours[end] - by);
        }

        /** PULLED: how many KNOTS came off. */
        int takeOff(int end) {
            int off = 0;
            if (behind[end] != NONE) {
                shorten(behind[end]);
                part(end, behind[end]);
                off++;
            }
            if (ahead[end] != NONE) {
                shorten(ahead[end]);
                part(ahead[end], end);
                off++;
            }
            return off;
        }

        private void shorten(int end) {
            lengths[end] = Math.max(1, lengths[end] - 1);
        }
    }

    /** What was: the latest ACTS, the LOG, the IMAGE. */
    private static final class Memory {
        private static final int MOST_ACTS = 40;
        private static final int MOST_LOGGED = 60;
        // with 40 DAYS undone the 60 ahead of them are told again
        private static final int SLOTS = MOST_ACTS + MOST_LOGGED;
        private static final int PARTS = 3;
        private final int[] acts = new int[MOST_ACTS * State.CELLS];
        private final int[] logged = new int[SLOTS * PARTS];
        private final int[] imaged = new int[State.CELLS];
        private final int[] imagedLog = new int[SLOTS * PARTS];
        private boolean hasImage;
        private int next;
        int size;

        void forget() {
            size = 0;
            next = 0;
            hasImage = false;
        }

        /** Keeps what is ahead of an ACT. */
        void keep(State now) {
            now.writeTo(acts, next * State.CELLS);
            next = (next + 1) % MOST_ACTS;
            size = Math.min(MOST_ACTS, size + 1);
        }

        boolean bringBackLatest(State now) {
            if (size == 0) {
                return false;
            }
            next = (next + MOST_ACTS - 1) % MOST_ACTS;
            size--;
            now.readFrom(acts, next * State.CELLS);
            return true;
        }

        static int loggedBy(int day) {
            return Math.min(MOST_LOGGED, day);
        }

        private static int placeOf(int day) {
            return Math.floorMod(day, SLOTS) * PARTS;
        }

        void writeDay(State now) {
            int place = placeOf(now.day);
            logged[place] = now.tries;
            logged[place + 1] = now.made;
            logged[place + 2] = now.coins;
        }

        int readDay(int day, int i, int what) {
            if (i < 0 || i >= loggedBy(day) || what < 0 || what >= PARTS) {
                return NONE;
            }
            return logged[placeOf(day - 1 - i) + what];
        }

        void keepImage(State now) {
            now.writeTo(imaged, 0);
            System.arraycopy(logged, 0, imagedLog, 0, logged.length);
            hasImage = true;
        }

        boolean bringBackImage(State now) {
            if (!hasImage) {
                return false;
            }
            now.readFrom(imaged, 0);
            System.arraycopy(imagedLog, 0, logged, 0, logged.length);
            size = 0;
            return true;
        }
    }

    /** How ENDS are TRIED and PULLED and how DAYS go by, in whatever State is handed in. */
    private static final class Works {
        private static final int TRIES_A_DAY = 3;
        private final Mill mill;
        private final Judge judge;
        private final Memory memory;
        long seed;

        Works(Mill mill, Judge judge, Memory memory) {
            this.mill = mill;
            this.judge = judge;
            this.memory = memory;
        }

        /** Whether one GOES WITH the other, n ENDS being in the TALE of the first. */
        boolean goesWith(State now, int one, int other, int n) {
            int colours = Math.abs(now.colours[one] - now.colours[other]);
            int plies = Math.abs(mill.plies[one] - mill.plies[other]);
            return judge.allows(colours, plies, now.lengths[one] + now.lengths[other], n, now.day);
        }

        int tryRefusal(State now, int one, int other) {
            if (!mill.has(one) || !mill.has(other)) {
                return NO_SUCH;
            }
            if (one == other) {
                return OUT_OF_BOUNDS;
            }
            if (!now.isOpen(one, other)) {
                return IT_IS_SO;
            }
            return now.tries >= mill.girls ? TOO_FEW : NONE;
        }

        /** A TRY that nothing refuses: whether they are KNOTTED. */
        boolean tryOn(State now, int one, int other) {
            boolean goes = goesWith(now, one, other, now.sizeOf(one));
            if (goes) {
                now.join(one, other);
                now.made |= 1 << one;
            }
            now.fadeBy(one, mill.fade);
            now.fadeBy(other, mill.fade);
            now.tries++;
            return goes;
        }

        int pullRefusal(State now, int end) {
            if (!mill.has(end)) {
                return NO_SUCH;
            }
            if (now.isSold(end)) {
                return IT_IS_SO;
            }
            return now.isKnotted(end) ? NONE : TOO_FEW;
        }

        void passDay(State now) {
            memory.writeDay(now);
            now.tries = 0;
            now.made = 0;
            now.coins = Math.min(MOST_COINS, now.coins + 1);
            now.day++;
        }

        /** One DAY of YEARS with what is drawn ahead of it. */
        void drawDay(State now, int waking) {
            for (int i = 0; i < TRIES_A_DAY; i++) {
                int one = draw(mill.ends);
                int other = draw(mill.ends);
                if (tryRefusal(now, one, other) == NONE) {
                    tryOn(now, one, other);
                }
            }
            if (draw(10) < waking) {
                int end = draw(mill.ends);
                if (pullRefusal(now, end) == NONE) {
                    now.takeOff(end);
                }
            }
            passDay(now);
        }

        private int draw(int many) {
            seed = seed * 6364136223846793005L + 1442695040888963407L;
            return many > 0 ? (int) ((seed >>> 33) % many) : 0;
        }
    }

    /** What could be, reckoned from what is now; what is now stays as it is. */
    private static final class Advice {
        private static final int SETS = 1 << MOST_ENDS;
        private static final int ALL_PARTS = 1000000000;
        private static final int NOBODY = 9;
        // above all that one BLANKET holds: BLANKETS and what the last one holds are kept as one number
        private static final int BLANKET = 1000;
        private final Mill mill;
        private final Works works;
        private final State now;
        private final State trial = new State();
        private final int[] partners = new int[MOST_ENDS];
        private final int[] openFrom = new int[MOST_ENDS + 1];
        private final int[] rows = new int[SETS * MOST_ENDS];
        private final int[] fills = new int[SETS];
        private final int[] bundles = new int[MOST_ENDS];
        private int mostJoined;
        int best;
        int bestRow;

        Advice(Mill mill, Works works, State now) {
            this.mill = mill;
            this.works = works;
            this.now = now;
        }

        /** COULD, as bits. */
        int partnersOf(int end) {
            int bits = 0;
            int n = now.sizeOf(end);
            for (int other = 0; other < now.ends; other++) {
                if (now.isOpen(end, other) && works.goesWith(now, end, other, n)) {
                    bits |= 1 << other;
                }
            }
            return bits;
        }

        void findKnots() {
            trial.copyFrom(now);
            openFrom[now.ends] = 0;
            for (int end = now.ends - 1; end >= 0; end--) {
                partners[end] = partnersOf(end);
                openFrom[end] = openFrom[end + 1] + (partners[end] == 0 ? 0 : 1);
            }
            best = NONE;
            mostJoined = countBundles() - 1;
            chooseKnot(0, 0, 0);
        }

        /** TALES and single ENDS, not SOLD: each KNOT makes one of two. */
        private int countBundles() {
            int found = 0;
            for (int end = 0; end < now.ends; end++) {
                if (!now.isSold(end) && now.ahead[end] == NONE) {
                    found++;
                }
            }
            return found;
        }

        /** Goes through the rows, the least first, so that of several the first one found stays. */
        private void chooseKnot(int end, int made, int row) {
            if (end > now.ends || made + openFrom[end] <= best || best != NONE && best >= mostJoined) {
                return;
            }
            if (end == now.ends) {
                best = made;
                bestRow = row;
                return;
            }
            for (int other = 0; other < now.ends; other++) {
                if ((partners[end] >> other & 1) == 1 && trial.isOpen(end, other)) {
                    trial.join(end, other);
                    chooseKnot(end + 1, made + 1, row * 10 + other);
                    trial.part(end, other);
                }
            }
            chooseKnot(end + 1, made, row * 10 + NOBODY);
        }

        /** For each set of LOOSE ENDS and each last one of it: the least row that has just these. */
        void findTale() {
            int loose = now.looseBits();
            Arrays.fill(rows, NONE);
            for (int end = 0; end < now.ends; end++) {
                if ((loose >> end & 1) == 1) {
                    rows[(1 << end) * MOST_ENDS + end] = end;
                }
            }
            for (int n = 1; n < now.ends; n++) {
                findFollowers(loose, n);
                lengthenRows(n);
            }
            best = 0;
            bestRow = NONE;
            int most = 0;
            for (int set = 1; set < 1 << now.ends; set++) {
                int row = leastRowOf(set);
                if (row != NONE && isBetter(set, row, most)) {
                    most = set;
                    best = now.lengthOf(set);
                    bestRow = row;
                }
            }
        }

        /** Whom each LOOSE END GOES WITH as the n-th of a row. How far two are apart is the same both ways. */
        private void findFollowers(int loose, int n) {
            Arrays.fill(partners, 0);
            for (int one = 0; one < now.ends; one++) {
                for (int other = one + 1; other < now.ends; other++) {
                    int both = 1 << one | 1 << other;
                    if ((loose & both) == both && works.goesWith(now, one, other, n)) {
                        partners[one] |= 1 << other;
                        partners[other] |= 1 << one;
                    }
                }
            }
        }

        private void lengthenRows(int n) {
            for (int set = 1; set < 1 << now.ends; set++) {
                if (Integer.bitCount(set) == n) {
                    for (int last = 0; last < now.ends; last++) {
                        lengthenRow(set, last);
                    }
                }
            }
        }

        private void lengthenRow(int set, int last) {
            int row = rows[set * MOST_ENDS + last];
            if (row == NONE) {
                return;
            }
            int followers = partners[last] & ~set;
            for (int end = 0; end < now.ends; end++) {
                if ((followers >> end & 1) == 1) {
                    int place = (set | 1 << end) * MOST_ENDS + end;
                    int longer = row * 10 + end;
                    if (rows[place] == NONE || longer < rows[place]) {
                        rows[place] = longer;
                    }
                }
            }
        }

        private int leastRowOf(int set) {
            int least = NONE;
            for (int last = 0; last < now.ends; last++) {
                int row = rows[set * MOST_ENDS + last];
                if (row != NONE && (least == NONE || row < least)) {
                    least = row;
                }
            }
            return least;
        }

        private boolean isBetter(int set, int row, int most) {
            int length = now.lengthOf(set);
            if (length != best) {
                return length > best;
            }
            int fewer = Integer.bitCount(most) - Integer.bitCount(set);
            return fewer > 0 || fewer == 0 && row < bestRow;
        }

        /** The least of all TRIES that could be in a State: one that makes a KNOT, if there is one. */
        void findTry(State from) {
            best = 0;
            bestRow = NONE;
            for (int one = 0; one < from.ends; one++) {
                for (int other = 0; other < from.ends; other++) {
                    if (!from.isOpen(one, other)) {
                        continue;
                    }
                    if (bestRow == NONE) {
                        bestRow = one * 10 + other;
                    }
                    if (works.goesWith(from, one, other, from.sizeOf(one))) {
                        best = 1;
                        bestRow = one * 10 + other;
                        return;
                    }
                }
            }
        }

        void findTwoTries() {
            int found = 0;
            int foundRow = NONE;
            // two KNOTS are the most there can be, and the first row that makes two is the least
            for (int one = 0; one < now.ends && found < 2; one++) {
                for (int other = 0; other < now.ends && found < 2; other++) {
                    if (now.isOpen(one, other)) {
                        tryAndFindNext(one, other);
                        if (foundRow == NONE || best > found || best == found && bestRow < foundRow) {
                            found = best;
                            foundRow = bestRow;
                        }
                    }
                }
            }
            best = found;
            bestRow = foundRow;
        }

        private void tryAndFindNext(int one, int other) {
            trial.copyFrom(now);
            int first = works.tryOn(trial, one, other) ? 1 : 0;
            int row = one * 10 + other;
            findTry(trial);
            best += first;
            bestRow = bestRow == NONE ? row : row * 100 + bestRow;
        }

        int fewestBlankets(int w) {
            int size = 0;
            for (int end = 0; end < now.ends; end++) {
                if (!now.isSold(end) && now.ahead[end] == NONE) {
                    bundles[size] = now.lengthOf(now.taleOf(end));
                    if (bundles[size] > w) {
                        return NONE;
                    }
                    size++;
                }
            }
            return fewestFor(size, w);
        }

        /** For each set of bundles: the fewest BLANKETS, and of these the least in the last one. */
        private int fewestFor(int size, int w) {
            Arrays.fill(fills, (MOST_ENDS + 1) * BLANKET);
            // none yet, and no room in it
            fills[0] = w;
            for (int set = 0; set < 1 << size; set++) {
                for (int i = 0; i < size; i++) {
                    int more = set | 1 << i;
                    if (more != set) {
                        fills[more] = Math.min(fills[more], layIn(fills[set], bundles[i], w));
                    }
                }
            }
            return fills[(1 << size) - 1] / BLANKET;
        }

        private static int layIn(int fill, int length, int w) {
            if (fill % BLANKET + length <= w) {
                return fill + length;
            }
            return (fill / BLANKET + 1) * BLANKET + length;
        }

        /** ODDS: a part that is not KNOTTED goes on to the next one, COLOURS being less by then. */
        int knottedParts(int end, int chance) {
            long left = ALL_PARTS;
            int n = now.sizeOf(end);
            trial.copyFrom(now);
            for (int other = 0; other < now.ends; other++) {
                if (now.isOpen(end, other)) {
                    if (works.goesWith(trial, end, other, n)) {
                        left = left * chance / 100;
                    }
                    trial.fadeBy(end, mill.fade);
                }
            }
            return (int) (ALL_PARTS - left);
        }

        int rackBits() {
            int loose = now.looseBits();
            findFollowers(loose, 1);
            int bits = 0;
            for (int end = 0; end < now.ends; end++) {
                if ((loose >> end & 1) == 1 && partners[end] == 0) {
                    bits |= 1 << end;
                }
            }
            return bits;
        }

        private boolean isFirstOfTale(int end) {
            return !now.isSold(end) && now.ahead[end] == NONE && now.behind[end] != NONE;
        }

        int countTales() {
            int tales = 0;
            for (int end = 0; end < now.ends; end++) {
                if (isFirstOfTale(end)) {
                    tales++;
                }
            }
            return tales;
        }

        int priceOfTales() {
            int sum = 0;
            for (int end = 0; end < now.ends; end++) {
                if (isFirstOfTale(end)) {
                    sum += now.priceOf(now.taleOf(end));
                }
            }
            return sum;
        }
    }

    /** SEEN, and what follows from it for PLIES; all but these is as the MILL was told. */
    private static final class Sightings {
        private static final int MOST_SEEN = 10;
        private final Mill mill;
        private final Judge judge;
        private final int[] ones = new int[MOST_SEEN];
        private final int[] others = new int[MOST_SEEN];
        private final boolean[] went = new boolean[MOST_SEEN];
        int size;

        Sightings(Mill mill, Judge judge) {
            this.mill = mill;
            this.judge = judge;
        }

        int add(int one, int other, boolean is) {
            if (size >= MOST_SEEN) {
                return NONE;
            }
            ones[size] = one;
            others[size] = other;
            went[size] = is;
            size++;
            return size;
        }

        /** As told, alone, on DAY 0, the END having that ply: it is the same which of the two is ahead. */
        private boolean goesAs(int end, int ply, int other) {
            int colours = Math.abs(mill.colours[end] - mill.colours[other]);
            int plies = Math.abs(ply - mill.plies[other]);
            return judge.allows(colours, plies, mill.lengths[end] + mill.lengths[other], 1, 0);
        }

        /** PLIES, as bits. */
        int fittingPlies(int end) {
            int bits = 0;
            for (int ply = 1; ply <= MOST_PLY; ply++) {
                if (isAllSo(end, ply)) {
                    bits |= 1 << ply;
                }
            }
            return bits;
        }

        private boolean isAllSo(int end, int ply) {
            for (int i = 0; i < size; i++) {
                if (ones[i] == end || others[i] == end) {
                    int other = ones[i] == end ? others[i] : ones[i];
                    if (goesAs(end, ply, other) != went[i]) {
                        return false;
                    }
                }
            }
            return true;
        }

        int bestToTry(int end, int fitting) {
            int found = NONE;
            int least = 0;
            for (int other = 0; fitting != 0 && other < mill.ends; other++) {
                if (other != end) {
                    int apart = apartBy(end, fitting, other);
                    if (found == NONE || apart < least) {
                        found = other;
                        least = apart;
                    }
                }
            }
            return found;
        }

        private int apartBy(int end, int fitting, int other) {
            int balance = 0;
            for (int ply = 1; ply <= MOST_PLY; ply++) {
                if ((fitting >> ply & 1) == 1) {
                    balance += goesAs(end, ply, other) ? 1 : -1;
                }
            }
            return Math.abs(balance);
        }
    }

    /** GAME and RESTS of two. */
    private static final class Duel {
        private static final int MOVES = 4;
        private final Mill mill;
        private final Judge judge;
        private final State now;
        private final int[] mine = new int[MOVES * MOVES];
        private final int[] theirs = new int[MOVES * MOVES];

        Duel(Mill mill, Judge judge, State now) {
            this.mill = mill;
            this.judge = judge;
            this.now = now;
        }

        static boolean isMove(int x) {
            return x >= 0 && x < MOVES;
        }

        private int dyedOn(int end, int by) {
            return Math.min(MOST_COLOUR, now.colours[end] + by);
        }

        /** What one has, DYED on by x, the other by y. With n 1 it is the same which of two is ahead. */
        int has(int one, int other, int x, int y) {
            int colour = dyedOn(one, x);
            int having = 0;
            for (int end = 0; end < now.ends; end++) {
                if (end != one) {
                    int colours = Math.abs(colour - dyedOn(end, end == other ? y : 0));
                    int plies = Math.abs(mill.plies[one] - mill.plies[end]);
                    if (judge.allows(colours, plies, now.lengths[one] + now.lengths[end], 1, now.day)) {
                        having++;
                    }
                }
            }
            return having - x;
        }

        void play(int one, int other) {
            for (int x = 0; x < MOVES; x++) {
                for (int y = 0; y < MOVES; y++) {
                    mine[x * MOVES + y] = has(one, other, x, y);
                    theirs[x * MOVES + y] = has(other, one, y, x);
                }
            }
        }

        private boolean isRest(int x, int y) {
            int place = x * MOVES + y;
            for (int move = 0; move < MOVES; move++) {
                if (mine[move * MOVES + y] > mine[place] || theirs[x * MOVES + move] > theirs[place]) {
                    return false;
                }
            }
            return true;
        }

        int countRests() {
            int found = 0;
            for (int x = 0; x < MOVES; x++) {
                for (int y = 0; y < MOVES; y++) {
                    if (isRest(x, y)) {
                        found++;
                    }
                }
            }
            return found;
        }

        int restAt(int i) {
            int left = i;
            for (int x = 0; x < MOVES; x++) {
                for (int y = 0; y < MOVES; y++) {
                    if (isRest(x, y)) {
                        if (left == 0) {
                            return x * 10 + y;
                        }
                        left--;
                    }
                }
            }
            return NONE;
        }
    }
}
