import java.util.Arrays;

/**
 * A ledger of STATEMENTS that two GAUGES differ by an amount, or that one has a value.
 * The words in capitals are those of the document, DOC.md.
 */
public final class OffsetBook {
    public static final int NONE = -1;
    public static final long NOTHING = Long.MIN_VALUE;

    private static final int NOT_SO_MANY = -2;
    private static final int FAULTS_BEGIN = -2;

    private static final int GROUND = 0;
    private static final int MAX_GAUGES = 41;
    private static final int MAX_LETTERS = 6;
    private static final int MAX_DIGITS = 18;
    private static final int MAX_BYTES = 300;
    private static final int BYTES_OF_A_FEED = 20;
    private static final int MAX_STATEMENTS = 120;
    private static final int MAX_STATEMENTS_OF_A_TEXT = 12;
    private static final int MAX_ACTS = 20;
    private static final int PINS = 2;
    private static final int ROOMS = 4;
    private static final long MAX_DIFFERENCE = 1000000000000000000L;

    private static final int JOINS = 0;
    private static final int KNOWN = 1;
    private static final int REFUSED = 2;
    private static final int BEYOND = 3;
    private static final int RETRACTED = 4;

    private static final int WRONG_BYTE = 1;
    private static final int TOO_LONG = 2;
    private static final int NAME_TOO_MANY = 3;
    private static final int SAME_NAME = 4;
    private static final int STATEMENT_TOO_MANY = 5;

    private final Reader reader = new Reader();
    private final Told told = new Told();
    private final Groups groups = new Groups();
    private final Web web = new Web();
    private final Acts acts = new Acts();
    private final Pins pins = new Pins();
    private final Told[] images = {new Told(), new Told()};
    private final boolean[] imageMade = {false, false};

    public OffsetBook() {
    }

    public int feed(int a, int b, int c, int d, int e) {
        Tape tape = reader.tape;
        if (tape.length + BYTES_OF_A_FEED > MAX_BYTES) {
            return NONE;
        }
        tape.append(a);
        tape.append(b);
        tape.append(c);
        tape.append(d);
        tape.append(e);
        return tape.length;
    }

    public int end(int n) {
        if (n < 0 || n > reader.tape.length) {
            return NONE;
        }
        reader.tape.length = n;
        return n;
    }

    public int tell() {
        int fault = reader.readText(told);
        reader.tape.length = 0;
        if (fault != 0) {
            return FAULTS_BEGIN - fault;
        }
        acts.add(NONE, told);
        told.gauges = reader.gauges;
        told.statements = reader.statements;
        judgeAnew();
        return told.statements;
    }

    public int test() {
        int fault = reader.readLoneStatement(told);
        reader.tape.length = 0;
        if (fault != 0) {
            return FAULTS_BEGIN - fault;
        }
        return groups.weigh(told, told.statements);
    }

    public int retract(int statement) {
        if (!isStatement(statement) || told.retracted[statement]) {
            return NONE;
        }
        return turn(statement);
    }

    public int restore(int statement) {
        if (!isStatement(statement) || !told.retracted[statement]) {
            return NONE;
        }
        return turn(statement);
    }

    public int undo() {
        if (acts.undoable == 0) {
            return NONE;
        }
        acts.takeBackLast(told);
        judgeAnew();
        return acts.undoable;
    }

    public int statement(int statement, int what) {
        if (!isStatement(statement)) {
            return NONE;
        }
        switch (what) {
            case 0: return groups.verdict[statement];
            case 1: return told.first[statement];
            case 2: return told.second[statement];
            case 3: return hangs(statement) ? 1 : 0;
            case 4: return relyOn(statement);
            default: return NONE;
        }
    }

    public long amount(int statement) {
        return isStatement(statement) ? told.amount[statement] : NOTHING;
    }

    public int gauge() {
        Tape tape = reader.tape;
        int found = told.find(tape, 0, tape.length, told.gauges);
        tape.length = 0;
        return found;
    }

    public int letter(int gauge, int k) {
        if (!isGauge(gauge) || k < NONE || k >= told.lengths[gauge]) {
            return NONE;
        }
        return k == NONE ? told.lengths[gauge] : told.letters[gauge * MAX_LETTERS + k] - 'a' + 1;
    }

    public long difference(int one, int other) {
        if (!isGauge(one) || !isGauge(other) || groups.least[one] != groups.least[other]) {
            return NOTHING;
        }
        return groups.offset[one] - groups.offset[other];
    }

    public long offset(int gauge) {
        return isGauge(gauge) ? groups.offset[gauge] : NOTHING;
    }

    public int group(int gauge, int what) {
        if (!isGauge(gauge)) {
            return NONE;
        }
        switch (what) {
            case 0: return groups.least[gauge];
            case 1: return groups.sizeOf(groups.least[gauge]);
            default: return NONE;
        }
    }

    public int order(int gauge, int k) {
        if (!isGauge(gauge) || k < 0) {
            return NONE;
        }
        int least = groups.least[gauge];
        for (int g = 0; g < told.gauges; g++) {
            if (groups.least[g] == least && groups.countAhead(g) == k) {
                return g;
            }
        }
        return NOT_SO_MANY;
    }

    public long span(int gauge) {
        if (!isGauge(gauge)) {
            return NOTHING;
        }
        int least = groups.least[gauge];
        return groups.highest(least) - groups.lowest(least);
    }

    public long mean(int gauge) {
        return isGauge(gauge) ? bitsOf(groups.meanOf(groups.least[gauge])) : NOTHING;
    }

    public int twos(long amount) {
        return amount < 0 ? NONE : groups.countTwos(amount);
    }

    public int chain(int one, int other, int k) {
        if (!isGauge(one) || !isGauge(other) || k < NONE) {
            return NONE;
        }
        int length = web.findChain(one, other);
        if (length == NONE || k >= length) {
            return NOT_SO_MANY;
        }
        return k == NONE ? length : web.row[k];
    }

    public int cut(int statement, int k) {
        if (!isStatement(statement) || groups.verdict[statement] != REFUSED || k < NONE) {
            return NONE;
        }
        int size = web.findCut(told.first[statement], told.second[statement]);
        if (k >= size) {
            return NOT_SO_MANY;
        }
        return k == NONE ? size : web.row[k];
    }

    public int blame(int what) {
        if (what != 0 && what != 1) {
            return NONE;
        }
        web.clearTimes();
        for (int s = 0; s < told.statements; s++) {
            if (groups.verdict[s] == REFUSED) {
                web.countChain(told.first[s], told.second[s]);
            }
        }
        int worst = web.mostOften();
        if (worst == NONE) {
            return NOT_SO_MANY;
        }
        return what == 0 ? worst : web.times[worst];
    }

    public int pin(int pin, int room, int statement) {
        if (!Pins.isRoom(pin, room) || !isStatement(statement)) {
            return NONE;
        }
        int sort = told.second[statement] == GROUND ? 0 : 1;
        return pins.put(pin, room, statement, sort) ? sort : NOT_SO_MANY;
    }

    public int pinned(int pin, int room) {
        return Pins.isRoom(pin, room) ? pins.at(pin, room) : NONE;
    }

    public int image(int k) {
        if (k < 0 || k >= images.length) {
            return NONE;
        }
        images[k].becomeLike(told);
        imageMade[k] = true;
        return told.statements;
    }

    public int back(int k) {
        if (k < 0 || k >= images.length || !imageMade[k]) {
            return NONE;
        }
        told.becomeLike(images[k]);
        acts.undoable = 0;
        judgeAnew();
        return told.statements;
    }

    public int count(int what) {
        switch (what) {
            case 0: return told.gauges;
            case 1: return told.statements;
            case 2: return groups.countOf(JOINS, told.statements);
            case 3: return groups.countOf(KNOWN, told.statements);
            case 4: return groups.countOf(REFUSED, told.statements);
            case 5: return groups.countOf(BEYOND, told.statements);
            case 6: return groups.countOf(RETRACTED, told.statements);
            case 7: return groups.countGroups(told.gauges);
            case 8: return groups.countKnownTwos();
            case 9: return countHanging();
            case 10: return acts.undoable;
            case 11: return reader.tape.length;
            default: return NONE;
        }
    }

    private boolean isStatement(int number) {
        return number >= 0 && number < told.statements;
    }

    private boolean isGauge(int number) {
        return number >= 0 && number < told.gauges;
    }

    private void judgeAnew() {
        groups.judge(told);
        web.weave(told, groups);
    }

    private int turn(int statement) {
        acts.add(statement, told);
        told.retracted[statement] = !told.retracted[statement];
        judgeAnew();
        return groups.countOf(JOINS, told.statements) + groups.countOf(KNOWN, told.statements);
    }

    private int relyOn(int statement) {
        web.growTrees(told.gauges);
        return web.relyOn(statement);
    }

    // Each side of a STATEMENT that HANGS has a GAUGE, so twos RELY on just those that HANG.
    private boolean hangs(int statement) {
        return relyOn(statement) > 0;
    }

    private int countHanging() {
        web.growTrees(told.gauges);
        int hanging = 0;
        for (int s = 0; s < told.statements; s++) {
            if (web.relyOn(s) > 0) {
                hanging++;
            }
        }
        return hanging;
    }

    /**
     * What Double.doubleToLongBits answers, which is not in the library that is left to us.
     * A MEAN other than 0.0 is 1/41 or more without its sign, and finite, so never subnormal.
     */
    private static long bitsOf(double value) {
        if (value == 0.0) {
            return 0L;
        }
        double size = value < 0.0 ? -value : value;
        long exponent = 1075L;
        for (int n = 0; n < 1100 && size < 4503599627370496.0; n++) {
            size = size * 2.0;
            exponent--;
        }
        for (int n = 0; n < 1100 && size >= 9007199254740992.0; n++) {
            size = size / 2.0;
            exponent++;
        }
        long bits = (exponent << 52) | ((long) size & 0xFFFFFFFFFFFFFL);
        return value < 0.0 ? bits | Long.MIN_VALUE : bits;
    }

    /** The TAPE, and the place up to which it has been read. */
    private static final class Tape {
        private static final int BEHIND = -1;

        private final byte[] bytes = new byte[MAX_BYTES];
        private int length = 0;
        private int place = 0;

        void append(int number) {
            for (int shift = 24; shift >= 0 && length < MAX_BYTES; shift -= 8) {
                bytes[length] = (byte) (number >> shift);
                length++;
            }
        }

        int here() {
            return place < length ? bytes[place] & 255 : BEHIND;
        }

        boolean isLetterHere() {
            return place < length && bytes[place] >= 'a' && bytes[place] <= 'z';
        }

        void passBlanks() {
            while (place < length && bytes[place] == ' ') {
                place++;
            }
        }

        int passLetters() {
            int begin = place;
            while (place < length && isLetterHere()) {
                place++;
            }
            return place - begin;
        }

        int passDigits() {
            int begin = place;
            while (place < length && bytes[place] >= '0' && bytes[place] <= '9') {
                place++;
            }
            return place - begin;
        }

        long numberAt(int begin, int digits) {
            long number = 0;
            for (int n = begin; n < begin + digits && n < length; n++) {
                number = number * 10 + (bytes[n] - '0');
            }
            return number;
        }
    }

    /**
     * What has been told; all else is judged from it, so an IMAGE is just a copy of it.
     * A Reader writes its drafts behind what counts here, where nobody looks.
     */
    private static final class Told {
        private final byte[] letters = new byte[MAX_GAUGES * MAX_LETTERS];
        private final int[] lengths = new int[MAX_GAUGES];
        private final int[] first = new int[MAX_STATEMENTS];
        private final int[] second = new int[MAX_STATEMENTS];
        private final long[] amount = new long[MAX_STATEMENTS];
        private final boolean[] retracted = new boolean[MAX_STATEMENTS];
        private int gauges = 1;
        private int statements = 0;

        int find(Tape tape, int begin, int length, int among) {
            for (int g = GROUND + 1; g < among; g++) {
                if (lengths[g] == length && isNameAt(g, tape, begin)) {
                    return g;
                }
            }
            return NONE;
        }

        private boolean isNameAt(int gauge, Tape tape, int begin) {
            for (int k = 0; k < lengths[gauge]; k++) {
                if (letters[gauge * MAX_LETTERS + k] != tape.bytes[begin + k]) {
                    return false;
                }
            }
            return true;
        }

        void draftName(int gauge, Tape tape, int begin, int length) {
            lengths[gauge] = length;
            System.arraycopy(tape.bytes, begin, letters, gauge * MAX_LETTERS, length);
        }

        void draftStatement(int statement, int one, int other, long more) {
            first[statement] = one;
            second[statement] = other;
            amount[statement] = more;
            retracted[statement] = false;
        }

        void becomeLike(Told like) {
            gauges = like.gauges;
            statements = like.statements;
            System.arraycopy(like.letters, 0, letters, 0, letters.length);
            System.arraycopy(like.lengths, 0, lengths, 0, lengths.length);
            for (int s = 0; s < statements; s++) {
                draftStatement(s, like.first[s], like.second[s], like.amount[s]);
                retracted[s] = like.retracted[s];
            }
        }
    }

    /** Reads the TAPE up to its first FAULT; what it reads stays a draft until it is told. */
    private static final class Reader {
        private final Tape tape = new Tape();
        private int gauges = 0;
        private int statements = 0;
        private int fault = 0;

        int readText(Told told) {
            begin(told);
            // One round more than a TEXT may have: that one always ends with a FAULT.
            for (int n = 0; n <= MAX_STATEMENTS_OF_A_TEXT && fault == 0; n++) {
                readStatement(told);
                if (fault != 0 || tape.here() == Tape.BEHIND) {
                    return fault;
                }
                pass(';');
            }
            return fault;
        }

        int readLoneStatement(Told told) {
            begin(told);
            readStatement(told);
            if (tape.here() != Tape.BEHIND) {
                fail(tape.place, WRONG_BYTE);
            }
            return fault;
        }

        private void begin(Told told) {
            tape.place = 0;
            gauges = told.gauges;
            statements = told.statements;
            fault = 0;
        }

        private void fail(int place, int why) {
            if (fault == 0) {
                fault = 8 * place + why;
            }
        }

        private void pass(char sign) {
            tape.passBlanks();
            if (tape.here() == sign) {
                tape.place++;
            } else {
                fail(tape.place, WRONG_BYTE);
            }
        }

        private boolean isFull(Told told) {
            return statements >= MAX_STATEMENTS
                || statements - told.statements >= MAX_STATEMENTS_OF_A_TEXT;
        }

        private void readStatement(Told told) {
            tape.passBlanks();
            // Ahead of the NAME, which is judged only when it has been read.
            if (tape.isLetterHere() && isFull(told)) {
                fail(tape.place, STATEMENT_TOO_MANY);
                return;
            }
            int one = readName(told);
            if (fault == 0) {
                pass('=');
            }
            if (fault == 0) {
                readRightSide(told, one);
            }
            tape.passBlanks();
        }

        private void readRightSide(Told told, int one) {
            tape.passBlanks();
            int other = GROUND;
            if (tape.isLetterHere()) {
                int begin = tape.place;
                other = readName(told);
                if (other == one) {
                    fail(begin, SAME_NAME);
                }
                tape.passBlanks();
            }
            long more = readAmount(other == GROUND);
            if (fault == 0) {
                told.draftStatement(statements, one, other, more);
                statements++;
            }
        }

        private long readAmount(boolean ofValue) {
            int sign = tape.here();
            boolean signed = sign == '-' || sign == '+' && !ofValue;
            if (!signed && !ofValue) {
                return 0;
            }
            if (signed) {
                tape.place++;
            }
            long number = readNumber();
            return sign == '-' ? -number : number;
        }

        private long readNumber() {
            tape.passBlanks();
            int begin = tape.place;
            int digits = tape.passDigits();
            if (digits == 0) {
                fail(begin, WRONG_BYTE);
                return 0;
            }
            if (digits > MAX_DIGITS) {
                fail(begin, TOO_LONG);
                return 0;
            }
            return tape.numberAt(begin, digits);
        }

        private int readName(Told told) {
            int begin = tape.place;
            int length = tape.passLetters();
            if (length == 0) {
                fail(begin, WRONG_BYTE);
                return NONE;
            }
            if (length > MAX_LETTERS) {
                fail(begin, TOO_LONG);
                return NONE;
            }
            int found = told.find(tape, begin, length, gauges);
            if (found != NONE) {
                return found;
            }
            if (gauges >= MAX_GAUGES) {
                fail(begin, NAME_TOO_MANY);
                return NONE;
            }
            told.draftName(gauges, tape, begin, length);
            gauges++;
            return gauges - 1;
        }
    }

    /**
     * The GROUPS, and what each STATEMENT was as it was told.
     * GAUGES that there are not (yet) are GROUPS by themselves, so that drafts can be weighed.
     */
    private static final class Groups {
        private final int[] verdict = new int[MAX_STATEMENTS];
        private final int[] least = new int[MAX_GAUGES];
        private final long[] offset = new long[MAX_GAUGES];

        Groups() {
            for (int g = 0; g < MAX_GAUGES; g++) {
                least[g] = g;
            }
        }

        void judge(Told told) {
            for (int g = 0; g < MAX_GAUGES; g++) {
                least[g] = g;
                offset[g] = 0;
            }
            for (int s = 0; s < told.statements; s++) {
                verdict[s] = told.retracted[s] ? RETRACTED : weigh(told, s);
                if (verdict[s] == JOINS) {
                    join(told.first[s], told.second[s], told.amount[s]);
                }
            }
        }

        int weigh(Told told, int statement) {
            int one = told.first[statement];
            int other = told.second[statement];
            long more = told.amount[statement];
            if (least[one] == least[other]) {
                return offset[one] - offset[other] == more ? KNOWN : REFUSED;
            }
            // At most 5 times MAX_DIFFERENCE comes together here, which a long can hold.
            long shift = offset[other] + more - offset[one];
            long high = Math.max(highest(least[other]), highest(least[one]) + shift);
            long low = Math.min(lowest(least[other]), lowest(least[one]) + shift);
            return high - low > MAX_DIFFERENCE ? BEYOND : JOINS;
        }

        private void join(int one, int other, long more) {
            long shift = offset[other] + more - offset[one];
            if (least[one] < least[other]) {
                move(least[other], least[one], -shift);
            } else {
                move(least[one], least[other], shift);
            }
        }

        private void move(int from, int to, long shift) {
            for (int g = 0; g < MAX_GAUGES; g++) {
                if (least[g] == from) {
                    least[g] = to;
                    offset[g] += shift;
                }
            }
        }

        long highest(int group) {
            long high = 0;
            for (int g = 0; g < MAX_GAUGES; g++) {
                if (least[g] == group) {
                    high = Math.max(high, offset[g]);
                }
            }
            return high;
        }

        long lowest(int group) {
            long low = 0;
            for (int g = 0; g < MAX_GAUGES; g++) {
                if (least[g] == group) {
                    low = Math.min(low, offset[g]);
                }
            }
            return low;
        }

        int sizeOf(int group) {
            int size = 0;
            for (int g = 0; g < MAX_GAUGES; g++) {
                if (least[g] == group) {
                    size++;
                }
            }
            return size;
        }

        int countAhead(int gauge) {
            int ahead = 0;
            for (int g = 0; g < MAX_GAUGES; g++) {
                boolean lower = offset[g] < offset[gauge] || offset[g] == offset[gauge] && g < gauge;
                if (least[g] == least[gauge] && lower) {
                    ahead++;
                }
            }
            return ahead;
        }

        double meanOf(int group) {
            double sum = 0.0;
            int size = 0;
            for (int g = 0; g < MAX_GAUGES; g++) {
                if (least[g] == group) {
                    sum = sum + (double) offset[g];
                    size++;
                }
            }
            return size == 0 ? 0.0 : sum / (double) size;
        }

        int countTwos(long amount) {
            int twos = 0;
            for (int g = 0; g < MAX_GAUGES; g++) {
                for (int h = 0; h < g; h++) {
                    if (least[g] == least[h] && Math.abs(offset[g] - offset[h]) == amount) {
                        twos++;
                    }
                }
            }
            return twos;
        }

        int countKnownTwos() {
            int twos = 0;
            for (int g = 0; g < MAX_GAUGES; g++) {
                for (int h = 0; h < g; h++) {
                    if (least[g] == least[h]) {
                        twos++;
                    }
                }
            }
            return twos;
        }

        int countGroups(int gauges) {
            int count = 0;
            for (int g = 0; g < gauges && g < MAX_GAUGES; g++) {
                if (least[g] == g) {
                    count++;
                }
            }
            return count;
        }

        int countOf(int what, int statements) {
            int count = 0;
            for (int s = 0; s < statements && s < MAX_STATEMENTS; s++) {
                if (verdict[s] == what) {
                    count++;
                }
            }
            return count;
        }
    }

    /**
     * The STANDING STATEMENTS as ways between GAUGES: way 2 * s leads from the first GAUGE of
     * STATEMENT s to its second one, way 2 * s + 1 back.
     */
    private static final class Web {
        private static final int WAYS = 2 * MAX_STATEMENTS;

        // To which GAUGE each way leads; NONE, if its STATEMENT is not STANDING.
        private final int[] leads = new int[WAYS];
        // The ways from GAUGE g stand at begins[g] up to begins[g + 1], rising, so that the
        // first that fits is the least.
        private final int[] ways = new int[WAYS];
        private final int[] begins = new int[MAX_GAUGES + 1];
        private final int[] sorted = new int[MAX_GAUGES];

        private final int[] row = new int[MAX_STATEMENTS];
        private final int[] times = new int[MAX_STATEMENTS];

        private final int[] reached = new int[MAX_GAUGES];
        private int howManyReached = 0;
        private final int[] steps = new int[MAX_GAUGES];
        private final int[] reachedBy = new int[MAX_GAUGES];

        private final int[] flow = new int[MAX_STATEMENTS];

        private final boolean[] onRing = new boolean[MAX_GAUGES];
        private final int[] below = new int[MAX_GAUGES];
        private final int[] rely = new int[MAX_STATEMENTS];

        Web() {
            Arrays.fill(leads, NONE);
        }

        void weave(Told told, Groups groups) {
            Arrays.fill(leads, NONE);
            for (int s = 0; s < told.statements; s++) {
                if (groups.verdict[s] == JOINS || groups.verdict[s] == KNOWN) {
                    leads[2 * s] = told.second[s];
                    leads[2 * s + 1] = told.first[s];
                }
            }
            sortWays();
        }

        private void sortWays() {
            Arrays.fill(begins, 0);
            for (int way = 0; way < WAYS; way++) {
                if (leads[way] != NONE) {
                    begins[leads[way ^ 1] + 1]++;
                }
            }
            for (int g = 0; g < MAX_GAUGES; g++) {
                begins[g + 1] += begins[g];
            }
            Arrays.fill(sorted, 0);
            for (int way = 0; way < WAYS; way++) {
                if (leads[way] != NONE) {
                    int from = leads[way ^ 1];
                    ways[begins[from] + sorted[from]] = way;
                    sorted[from]++;
                }
            }
        }

        private boolean isStanding(int statement) {
            return leads[2 * statement] != NONE;
        }

        private void forgetReached() {
            Arrays.fill(steps, NONE);
            howManyReached = 0;
        }

        private void mark(int gauge, int far, int way) {
            steps[gauge] = far;
            reachedBy[gauge] = way;
            if (howManyReached < MAX_GAUGES) {
                reached[howManyReached] = gauge;
                howManyReached++;
            }
        }

        private void reachFrom(int gauge) {
            int from = howManyReached;
            mark(gauge, 0, NONE);
            for (int n = from; n < howManyReached && n < MAX_GAUGES; n++) {
                int at = reached[n];
                for (int i = begins[at]; i < begins[at + 1]; i++) {
                    int to = leads[ways[i]];
                    if (steps[to] == NONE && hasRoom(ways[i])) {
                        mark(to, steps[at] + 1, ways[i]);
                    }
                }
            }
        }

        private boolean hasRoom(int way) {
            return (way & 1) == 0 ? flow[way >> 1] < 1 : flow[way >> 1] > -1;
        }

        /** How long the CHAIN is, NONE without one; it stands in the row. */
        int findChain(int one, int other) {
            Arrays.fill(flow, 0);
            forgetReached();
            reachFrom(other);
            int length = steps[one];
            int at = one;
            for (int k = 0; k < length; k++) {
                int way = firstNearer(at);
                if (way == NONE) {
                    return NONE;
                }
                row[k] = way >> 1;
                at = leads[way];
            }
            return length;
        }

        private int firstNearer(int gauge) {
            for (int i = begins[gauge]; i < begins[gauge + 1]; i++) {
                if (steps[leads[ways[i]]] == steps[gauge] - 1) {
                    return ways[i];
                }
            }
            return NONE;
        }

        void clearTimes() {
            Arrays.fill(times, 0);
        }

        void countChain(int one, int other) {
            int length = findChain(one, other);
            for (int k = 0; k < length; k++) {
                times[row[k]]++;
            }
        }

        int mostOften() {
            int most = NONE;
            for (int s = 0; s < MAX_STATEMENTS; s++) {
                if (times[s] > (most == NONE ? 0 : times[most])) {
                    most = s;
                }
            }
            return most;
        }

        /**
         * How many the CUT has; they stand in the row. A greatest flow leaves room, from the
         * first GAUGE on, just to those that are on its side in the CUT that is asked for.
         */
        int findCut(int one, int other) {
            Arrays.fill(flow, 0);
            for (int n = 0; n <= MAX_STATEMENTS; n++) {
                forgetReached();
                reachFrom(one);
                if (steps[other] == NONE) {
                    break;
                }
                flowAlong(other);
            }
            int size = 0;
            for (int s = 0; s < MAX_STATEMENTS; s++) {
                if (isStanding(s) && isReached(leads[2 * s]) != isReached(leads[2 * s + 1])) {
                    row[size] = s;
                    size++;
                }
            }
            return size;
        }

        private boolean isReached(int gauge) {
            return steps[gauge] != NONE;
        }

        private void flowAlong(int end) {
            int at = end;
            for (int n = 0; n < MAX_GAUGES && reachedBy[at] != NONE; n++) {
                int way = reachedBy[at];
                flow[way >> 1] += (way & 1) == 0 ? 1 : -1;
                at = leads[way ^ 1];
            }
        }

        /** Trees of STATEMENTS through all GROUPS: what is on no ring with the others HANGS. */
        void growTrees(int gauges) {
            Arrays.fill(flow, 0);
            forgetReached();
            for (int g = 0; g < gauges && g < MAX_GAUGES; g++) {
                onRing[g] = false;
                below[g] = 1;
                if (steps[g] == NONE) {
                    reachFrom(g);
                }
            }
            for (int s = 0; s < MAX_STATEMENTS; s++) {
                if (isStanding(s) && !isInTree(s)) {
                    markRing(leads[2 * s], leads[2 * s + 1]);
                }
            }
            addUpBelow();
            fillRely();
        }

        private boolean isInTree(int statement) {
            int way = 2 * statement;
            return reachedBy[leads[way]] == way || reachedBy[leads[way + 1]] == way + 1;
        }

        private int above(int gauge) {
            return reachedBy[gauge] == NONE ? gauge : leads[reachedBy[gauge] ^ 1];
        }

        private void markRing(int one, int other) {
            int left = one;
            int right = other;
            for (int n = 0; n < 2 * MAX_GAUGES && left != right; n++) {
                if (steps[left] >= steps[right]) {
                    onRing[left] = true;
                    left = above(left);
                } else {
                    onRing[right] = true;
                    right = above(right);
                }
            }
        }

        private void addUpBelow() {
            for (int n = howManyReached - 1; n >= 0; n--) {
                int gauge = reached[n];
                if (reachedBy[gauge] != NONE) {
                    below[above(gauge)] += below[gauge];
                }
            }
        }

        private void fillRely() {
            Arrays.fill(rely, 0);
            int root = GROUND;
            for (int n = 0; n < howManyReached; n++) {
                int gauge = reached[n];
                if (reachedBy[gauge] == NONE) {
                    root = gauge;
                } else if (!onRing[gauge]) {
                    rely[reachedBy[gauge] >> 1] = below[gauge] * (below[root] - below[gauge]);
                }
            }
        }

        int relyOn(int statement) {
            return rely[statement];
        }
    }

    /** The last ACTS; each can be taken back by what it keeps of how all was ahead of it. */
    private static final class Acts {
        private final int[] turned = new int[MAX_ACTS];
        private final int[] gaugesAhead = new int[MAX_ACTS];
        private final int[] statementsAhead = new int[MAX_ACTS];
        private int next = 0;
        private int undoable = 0;

        /** Turned: the STATEMENT that is RETRACTED or RESTORED, NONE if a TEXT is told. */
        void add(int statement, Told told) {
            turned[next] = statement;
            gaugesAhead[next] = told.gauges;
            statementsAhead[next] = told.statements;
            next = next + 1 < MAX_ACTS ? next + 1 : 0;
            undoable = Math.min(undoable + 1, MAX_ACTS);
        }

        void takeBackLast(Told told) {
            next = next > 0 ? next - 1 : MAX_ACTS - 1;
            undoable--;
            told.gauges = gaugesAhead[next];
            told.statements = statementsAhead[next];
            int statement = turned[next];
            if (statement != NONE) {
                told.retracted[statement] = !told.retracted[statement];
            }
        }
    }

    /** The PINS; a room without a STATEMENT has NOT_SO_MANY in it, a PIN without a sort NONE. */
    private static final class Pins {
        private final int[] rooms = new int[PINS * ROOMS];
        private final int[] sorts = new int[PINS];

        Pins() {
            Arrays.fill(rooms, NOT_SO_MANY);
            Arrays.fill(sorts, NONE);
        }

        static boolean isRoom(int pin, int room) {
            return pin >= 0 && pin < PINS && room >= 0 && room < ROOMS;
        }

        boolean put(int pin, int room, int statement, int sort) {
            if (sorts[pin] != NONE && sorts[pin] != sort) {
                return false;
            }
            sorts[pin] = sort;
            rooms[pin * ROOMS + room] = statement;
            return true;
        }

        int at(int pin, int room) {
            return rooms[pin * ROOMS + room];
        }
    }
}
