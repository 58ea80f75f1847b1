import java.util.function.IntFunction;

/**
 * Promises 6 to 27, each sentence that says when a call answers NONE, NOTHING or -2: with the
 * last argument on this side of it, the first beyond it, and the farthest there are.
 */
public final class EdgesTest {
    private static final int MIN = Integer.MIN_VALUE;
    private static final int MAX = Integer.MAX_VALUE;
    private static final long NOTHING = Check.NOTHING;

    private static final int GAUGES = 7;
    private static final int STATEMENTS = 8;

    public static void main(String[] args) {
        retractEach();
        restoreEach();
        undoToTheFirst();
        statements();
        standingAlone();
        amounts();
        gaugesOfNames();
        letters();
        differences();
        offsets();
        groups();
        orders();
        spans();
        means();
        twos();
        chains();
        chainsOfTwoGroups();
        cuts();
        cutsOfOthers();
        blames();
        pins();
        pinRooms();
        pinSorts();
        pinnedAsItWas();
        imagesMade();
        imagesOfNothing();
        backsGone();
        counts();
        whatIsGoneIsNotThere();
        Check.finish("EdgesTest");
    }

    /**
     * GAUGES a to f are 1 to 6. STATEMENTS: 0, 1, 4 and 7 JOIN, 3 is KNOWN, 2 REFUSED, 5 BEYOND,
     * 6 RETRACTED. GROUPS: the GROUND, a, b and f (0, 5, 6 and -4); c and d; e.
     */
    private static OffsetBook book() {
        OffsetBook book = Check.told("a=5;b=a+1;b=7;b=6;c=d;e=b+999999999999999999;d=c+3", "f=a-9");
        Check.due("retract(6)", book.retract(6), 5);
        return book;
    }

    private static int[] around(int count) {
        int[] all = new int[count + 5];
        all[0] = MIN;
        all[1] = MAX;
        for (int n = -1; n <= count + 1; n++) {
            all[n + 3] = n;
        }
        return all;
    }

    private static boolean within(int number, int count) {
        return number >= 0 && number < count;
    }

    /** Promise 6: "how many are STANDING then; NONE .. without it, or if it is RETRACTED". */
    private static void retractEach() {
        int[] due = {4, 4, 5, 4, 4, 5, -1, 4};
        for (int s : around(STATEMENTS)) {
            OffsetBook book = book();
            boolean there = within(s, STATEMENTS);
            Check.due("retract(" + s + ")", book.retract(s), there ? due[s] : -1);
            Check.due("what it is", book.statement(s, 0), there ? 4 : -1);
            Check.due("retract(" + s + ") again", book.retract(s), -1);
            Check.due("ACTS", book.count(10), there && s != 6 ? 4 : 3);
            Check.due("STATEMENTS", book.count(1), STATEMENTS);
        }
        OffsetBook book = Check.told("a=5");
        Check.due("the only one", book.retract(0), 0);
        Check.due("its GAUGE is there still", book.count(0), 2);
    }

    /** Promise 7: "how many are STANDING then; NONE .. if it is not RETRACTED". */
    private static void restoreEach() {
        int[] due = {5, 5, 5, 5, 5, 5, 5, 5};
        int[] kinds = {0, 0, 2, 1, 0, 3, 2, 0};
        for (int s : around(STATEMENTS)) {
            OffsetBook book = book();
            boolean there = within(s, STATEMENTS);
            Check.due("restore(" + s + ")", book.restore(s), s == 6 ? 5 : -1);
            if (there && s != 6) {
                book.retract(s);
                Check.due("restore(" + s + ") then", book.restore(s), due[s]);
            }
            Check.due("what it is", book.statement(s, 0), there ? kinds[s] : -1);
            Check.due("restore(" + s + ") again", book.restore(s), -1);
        }
    }

    /** Promise 8: "how many more can be; NONE .. if none can". */
    private static void undoToTheFirst() {
        OffsetBook book = book();
        int[] statements = {8, 7, 0};
        int[] gauges = {7, 6, 1};
        int[] retracted = {0, 0, 0};
        for (int n = 0; n < 3; n++) {
            Check.due("ACTS", book.count(10), 3 - n);
            Check.due("undo", book.undo(), 2 - n);
            Check.due("STATEMENTS", book.count(1), statements[n]);
            Check.due("GAUGES", book.count(0), gauges[n]);
            Check.due("RETRACTED", book.count(6), retracted[n]);
        }
        Check.due("undo", book.undo(), -1);
        Check.due("ACTS", book.count(10), 0);
    }

    /** Promise 9: what 0 to 4; "NONE without these". */
    private static void statements() {
        int[][] due = {{0, 0, 2, 1, 0, 3, 4, 0}, {1, 2, 2, 2, 3, 5, 4, 6}, {0, 1, 0, 0, 4, 2, 3, 1},
            {0, 0, 0, 0, 1, 0, 0, 1}, {0, 0, 0, 0, 1, 0, 0, 3}};
        OffsetBook book = book();
        for (int s : around(STATEMENTS)) {
            for (int what : around(due.length)) {
                boolean there = within(s, STATEMENTS) && within(what, due.length);
                Check.due("statement(" + s + ", " + what + ")", book.statement(s, what),
                    there ? due[what][s] : -1);
            }
        }
    }

    /** Promise 9: "1 if it HANGS, else 0", RELY "0 but of one that is STANDING"; nothing anew. */
    private static void standingAlone() {
        OffsetBook book = Check.told("a=b;a=b+1;c=d+999999999999999999;e=c+2");
        int[] kinds = {0, 2, 0, 3};
        int[] hangs = {1, 0, 1, 0};
        for (int s = 0; s < 4; s++) {
            Check.due("statement(" + s + ", 0)", book.statement(s, 0), kinds[s]);
            Check.due("statement(" + s + ", 3)", book.statement(s, 3), hangs[s]);
            Check.due("statement(" + s + ", 4)", book.statement(s, 4), hangs[s]);
        }
        Check.due("retract", book.retract(0), 2);
        Check.due("judged anew only then", book.statement(1, 3), 1);
        Check.due("RELY", book.statement(1, 4), 1);
        Check.due("RETRACTED", book.statement(0, 3), 0);
        Check.due("RETRACTED", book.statement(0, 4), 0);
    }

    /** Promise 10: "NOTHING without it". */
    private static void amounts() {
        long[] due = {5, 1, 7, 6, 0, 999999999999999999L, 3, -9};
        OffsetBook book = book();
        for (int s : around(STATEMENTS)) {
            Check.due("amount(" + s + ")", book.amount(s), within(s, STATEMENTS) ? due[s] : NOTHING);
        }
    }

    /** Promise 11: "(with nothing else, no blanks); NONE, if there is none such". */
    private static void gaugesOfNames() {
        OffsetBook book = Check.told("abcdef=1;ab=2;z=3");
        String[] names = {"abcdef", "ab", "z", "", "a", "abc", "abcde", "abcdefg", "b", "y", "zz", "ab ",
            " ab", "ab\0", "a b", "Z", "ab;", "0", "ab=2", "{", "`"};
        for (int n = 0; n < names.length; n++) {
            Check.due("gauge of " + names[n], Check.gauge(book, names[n]), n < 3 ? n + 1 : -1);
            Check.due("the TAPE is empty then", book.count(11), 0);
        }
        Check.due("a NAME that is tested only", Check.test(book, "q=1"), 0);
        Check.due("gauge of q", Check.gauge(book, "q"), -1);
        Check.due("a NAME of a TEXT with a FAULT", Check.tell(book, "q=1;"), Check.fault(4, 1));
        Check.due("gauge of q", Check.gauge(book, "q"), -1);
        Check.due("tell", Check.tell(book, "q=1"), 4);
        Check.due("gauge of q", Check.gauge(book, "q"), 4);
        Check.due("undo", book.undo(), 1);
        Check.due("gauge of q", Check.gauge(book, "q"), -1);
    }

    /** Promise 12: k from NONE on; "NONE without these (of the GROUND 0 letters)". */
    private static void letters() {
        String[] names = {"", "a", "zy", "abcdef", "zzzzzz"};
        OffsetBook book = Check.told("a=zy;abcdef=zzzzzz");
        for (int g : around(names.length)) {
            for (int k : around(7)) {
                long due = -1;
                if (within(g, names.length) && k == -1) {
                    due = names[g].length();
                } else if (within(g, names.length) && within(k, names[g].length())) {
                    due = names[g].charAt(k) - 'a' + 1;
                }
                Check.due("letter(" + g + ", " + k + ")", book.letter(g, k), due);
            }
        }
    }

    private static final int[] LEAST = {0, 0, 0, 3, 3, 5, 0};
    private static final long[] OFFSETS = {0, 5, 6, 0, 0, 0, -4};

    /** Promise 13: "NOTHING, if it is not known, or without these". */
    private static void differences() {
        OffsetBook book = book();
        for (int g : around(GAUGES)) {
            for (int h : around(GAUGES)) {
                boolean known = within(g, GAUGES) && within(h, GAUGES) && LEAST[g] == LEAST[h];
                Check.due("difference(" + g + ", " + h + ")", book.difference(g, h),
                    known ? OFFSETS[g] - OFFSETS[h] : NOTHING);
            }
        }
    }

    /** Promise 14: "NOTHING without that GAUGE". */
    private static void offsets() {
        OffsetBook book = book();
        for (int g : around(GAUGES)) {
            Check.due("offset(" + g + ")", book.offset(g), within(g, GAUGES) ? OFFSETS[g] : NOTHING);
        }
    }

    /** Promise 15: what 0 and 1; "NONE without these". */
    private static void groups() {
        int[][] due = {LEAST, {4, 4, 4, 2, 2, 1, 4}};
        OffsetBook book = book();
        for (int g : around(GAUGES)) {
            for (int what : around(2)) {
                boolean there = within(g, GAUGES) && within(what, 2);
                Check.due("group(" + g + ", " + what + ")", book.group(g, what), there ? due[what][g] : -1);
            }
        }
    }

    private static int[] orderOf(int gauge) {
        return LEAST[gauge] == 0 ? new int[] {6, 0, 1, 2}
            : LEAST[gauge] == 3 ? new int[] {3, 4} : new int[] {5};
    }

    /** Promise 16: "-2: there are not so many; NONE without that GAUGE, or for k below 0". */
    private static void orders() {
        OffsetBook book = book();
        for (int g : around(GAUGES)) {
            for (int k : around(GAUGES)) {
                long due = -1;
                if (within(g, GAUGES) && k >= 0) {
                    due = k < orderOf(g).length ? orderOf(g)[k] : -2;
                }
                Check.due("order(" + g + ", " + k + ")", book.order(g, k), due);
            }
        }
    }

    private static void ofGauges(String call, IntFunction<Long> got, long... due) {
        for (int g : around(due.length)) {
            Check.due(call + "(" + g + ")", got.apply(g), within(g, due.length) ? due[g] : NOTHING);
        }
    }

    /** Promise 17: "NOTHING without it". */
    private static void spans() {
        OffsetBook book = book();
        ofGauges("span", g -> book.span(g), 10, 10, 10, 0, 0, 0, 10);
    }

    /** Promise 18: "NOTHING without it". */
    private static void means() {
        OffsetBook book = book();
        long mean = Double.doubleToLongBits((0.0 + 5.0 + 6.0 - 4.0) / 4);
        ofGauges("mean", g -> book.mean(g), mean, mean, mean, 0, 0, 0, mean);
    }

    /** Promise 19: "(0 and on; known ones); NONE below 0". */
    private static void twos() {
        OffsetBook book = book();
        int[] due = {1, 1, 0, 0, 1, 1, 1, 0, 0, 1, 1, 0};
        for (int amount = 0; amount < due.length; amount++) {
            Check.due("twos(" + amount + ")", book.twos(amount), due[amount]);
        }
        for (long amount : new long[] {-1, -2, -5, -10, Long.MIN_VALUE, Long.MIN_VALUE + 1}) {
            Check.due("twos(" + amount + ")", book.twos(amount), -1);
        }
        for (long amount : new long[] {1L << 32, (1L << 32) + 5, 999999999999999999L,
            1000000000000000000L, 1000000000000000001L, Long.MAX_VALUE}) {
            Check.due("twos(" + amount + ")", book.twos(amount), 0);
        }
    }

    /** Promise 20: k NONE and on; "-2: there are not so many (in it)". */
    private static void chains() {
        OffsetBook book = book();
        int[][] ends = {{6, 0}, {0, 6}, {6, 2}, {0, 1}, {0, 2}, {2, 0}, {3, 4}, {4, 3}, {0, 0}, {5, 5}, {6, 6}};
        int[][] due = {{7, 0}, {0, 7}, {7, 1}, {0}, {3}, {3}, {4}, {4}, {}, {}, {}};
        for (int n = 0; n < ends.length; n++) {
            for (int k : around(3)) {
                long answer = k < -1 ? -1 : k == -1 ? due[n].length : k < due[n].length ? due[n][k] : -2;
                Check.due("chain(" + ends[n][0] + ", " + ends[n][1] + ", " + k + ")",
                    book.chain(ends[n][0], ends[n][1], k), answer);
            }
        }
    }

    /** Promise 20: "or they are in two GROUPS. NONE without these (k NONE and on)". */
    private static void chainsOfTwoGroups() {
        OffsetBook book = book();
        for (int k : new int[] {-1, 0, MAX, -2, MIN}) {
            int due = k >= -1 ? -2 : -1;
            Check.due("of two GROUPS", book.chain(0, 3, k), due);
            Check.due("of two GROUPS", book.chain(4, 6, k), due);
            Check.due("BEYOND has joined nothing", book.chain(5, 2, k), due);
            for (int without : new int[] {MIN, -1, GAUGES, GAUGES + 1, 40, 41, MAX}) {
                Check.due("chain(" + without + ", 0, " + k + ")", book.chain(without, 0, k), -1);
                Check.due("chain(0, " + without + ", " + k + ")", book.chain(0, without, k), -1);
                Check.due("chain of it", book.chain(without, without, k), -1);
            }
        }
    }

    /** Promise 21: "-2: there are not so many. NONE .. for other k". */
    private static void cuts() {
        OffsetBook book = book();
        int[] due = {1, 3};
        for (int k : around(3)) {
            long answer = k < -1 ? -1 : k == -1 ? due.length : k < due.length ? due[k] : -2;
            Check.due("cut(2, " + k + ")", book.cut(2, k), answer);
        }
    }

    /** Promise 21: "NONE, if it is not REFUSED". */
    private static void cutsOfOthers() {
        OffsetBook book = book();
        for (int s : around(STATEMENTS)) {
            for (int k : new int[] {-1, 0, 1, 2, MAX, MIN}) {
                if (s != 2) {
                    Check.due("cut(" + s + ", " + k + ")", book.cut(s, k), -1);
                }
            }
        }
        Check.due("retract", book.retract(2), 5);
        Check.due("REFUSED no more", book.cut(2, -1), -1);
        Check.due("restore", book.restore(2), 5);
        Check.due("REFUSED again", book.cut(2, -1), 2);
        Check.due("restore", book.restore(6), 5);
        Check.due("REFUSED now", book.cut(6, -1), 1);
        Check.due("its CUT", book.cut(6, 0), 4);
    }

    /** Promise 22: "-2: nothing is REFUSED. NONE for others". */
    private static void blames() {
        OffsetBook book = book();
        int[] due = {3, 1};
        for (int what : around(2)) {
            Check.due("blame(" + what + ")", book.blame(what), within(what, 2) ? due[what] : -1);
        }
        Check.due("retract", book.retract(2), 5);
        for (int what : around(2)) {
            Check.due("blame(" + what + ")", book.blame(what), within(what, 2) ? -2 : -1);
        }
        OffsetBook twice = Check.told("a=b;b=c;c=d;a=d+1;b=d+1;a=b+1;a=b+2");
        Check.due("in most CHAINS", twice.blame(0), 0);
        Check.due("in how many", twice.blame(1), 3);
        Check.due("retract", twice.retract(6), 3);
        Check.due("of several the least", twice.blame(0), 0);
        Check.due("in how many", twice.blame(1), 2);
        Check.due("retract", twice.retract(5), 3);
        Check.due("of several the least", twice.blame(0), 1);
        Check.due("in how many", twice.blame(1), 2);
    }

    /** Promise 23: "1 if it is of two NAMES, else 0; -2 ..; NONE .. without these". */
    private static void pins() {
        int[] sorts = {0, 1, 0, 0, 1, 1, 1, 1};
        for (int s : around(STATEMENTS)) {
            boolean there = within(s, STATEMENTS);
            Check.due("pin(0, 0, " + s + ")", book().pin(0, 0, s), there ? sorts[s] : -1);
            OffsetBook book = book();
            book.pin(1, 3, 0);
            book.pin(0, 3, 1);
            Check.due("pin(1, 2, " + s + ")", book.pin(1, 2, s), there ? sorts[s] == 0 ? 0 : -2 : -1);
            Check.due("pin(0, 2, " + s + ")", book.pin(0, 2, s), there ? sorts[s] == 1 ? 1 : -2 : -1);
            Check.due("pinned(1, 2)", book.pinned(1, 2), there && sorts[s] == 0 ? s : -2);
            Check.due("pinned(0, 2)", book.pinned(0, 2), there && sorts[s] == 1 ? s : -2);
        }
    }

    /** Promises 23, 24: rooms 0 to 3 of PINS 0 and 1, each by itself; "NONE without these". */
    private static void pinRooms() {
        for (int pin : around(2)) {
            for (int room : around(4)) {
                boolean there = within(pin, 2) && within(room, 4);
                OffsetBook book = book();
                Check.due("pin(" + pin + ", " + room + ", 7)", book.pin(pin, room, 7), there ? 1 : -1);
                for (int p : around(2)) {
                    for (int r : around(4)) {
                        int due = within(p, 2) && within(r, 4) ? p == pin && r == room ? 7 : -2 : -1;
                        Check.due("pinned(" + p + ", " + r + ")", book.pinned(p, r), due);
                    }
                }
            }
        }
    }

    /** Terms: "that of which the first one was that came to the PIN", also when none is left. */
    private static void pinSorts() {
        OffsetBook book = book();
        Check.due("the first one", book.pin(0, 2, 0), 0);
        Check.due("of the other sort", book.pin(0, 2, 1), -2);
        Check.due("in its place", book.pin(0, 2, 3), 0);
        Check.due("pinned", book.pinned(0, 2), 3);
        Check.due("the same once more", book.pin(0, 2, 3), 0);
        Check.due("the same in another room", book.pin(0, 0, 3), 0);
        Check.due("of the other sort still", book.pin(0, 2, 4), -2);
        Check.due("the other PIN has its own sort", book.pin(1, 2, 4), 1);
        Check.due("of the other sort", book.pin(1, 0, 0), -2);
        Check.due("pinned", book.pinned(1, 0), -2);
    }

    /** Promise 24: "its number, as it was when it came", whatever happens to the STATEMENT. */
    private static void pinnedAsItWas() {
        OffsetBook book = book();
        Check.due("pin", book.pin(0, 0, 7), 1);
        Check.due("image", book.image(0), STATEMENTS);
        Check.due("retract", book.retract(7), 4);
        Check.due("pinned", book.pinned(0, 0), 7);
        for (int n = 3; n >= 0; n--) {
            Check.due("undo", book.undo(), n);
        }
        Check.due("no STATEMENTS", book.count(1), 0);
        Check.due("pinned", book.pinned(0, 0), 7);
        Check.due("pin of what is not there", book.pin(0, 0, 7), -1);
        Check.due("pinned", book.pinned(0, 0), 7);
        Check.due("tell", Check.tell(book, "z=1"), 1);
        Check.due("of the other sort", book.pin(0, 0, 0), -2);
        Check.due("back", book.back(0), STATEMENTS);
        Check.due("pinned", book.pinned(0, 0), 7);
    }

    /** Promise 25: "NONE without that number"; an IMAGE comes in place of the one before. */
    private static void imagesMade() {
        OffsetBook book = book();
        for (int k : around(2)) {
            Check.due("image(" + k + ")", book.image(k), within(k, 2) ? STATEMENTS : -1);
            Check.due("ACTS", book.count(10), 3);
        }
        Check.due("undo", book.undo(), 2);
        Check.due("undo", book.undo(), 1);
        Check.due("image(1) anew", book.image(1), STATEMENTS - 1);
        Check.due("back(0)", book.back(0), STATEMENTS);
        Check.due("RETRACTED", book.count(6), 1);
        Check.due("back(1)", book.back(1), STATEMENTS - 1);
        Check.due("RETRACTED", book.count(6), 0);
        Check.due("back(0) again", book.back(0), STATEMENTS);
    }

    /** An IMAGE of no STATEMENTS has been made, too: 0, not NONE. */
    private static void imagesOfNothing() {
        for (int k = 0; k <= 1; k++) {
            OffsetBook book = new OffsetBook();
            Check.due("image", book.image(k), 0);
            Check.due("the other was never made", book.back(1 - k), -1);
            Check.due("tell", Check.tell(book, "a=5;b=a;b=6"), 3);
            Check.due("back", book.back(k), 0);
            Check.due("GAUGES", book.count(0), 1);
            Check.due("GROUPS", book.count(7), 1);
            Check.due("a", Check.gauge(book, "a"), -1);
            Check.due("b first", Check.tell(book, "b=5"), 1);
            Check.due("b", Check.gauge(book, "b"), 1);
        }
    }

    /** Promise 26: "(nothing can be UNDONE then)"; "NONE .. without that number". */
    private static void backsGone() {
        for (int k : around(2)) {
            OffsetBook book = book();
            book.image(0);
            book.image(1);
            book.retract(0);
            boolean there = within(k, 2);
            Check.due("back(" + k + ")", book.back(k), there ? STATEMENTS : -1);
            Check.due("ACTS", book.count(10), there ? 0 : 4);
            Check.due("undo", book.undo(), there ? -1 : 3);
            Check.due("what 0 is", book.statement(0, 0), 0);
            Check.due("an ACT", book.retract(3), 4);
            Check.due("undo", book.undo(), there ? 0 : 3);
        }
    }

    /** Promise 27: what 0 to 11; "NONE for others". */
    private static void counts() {
        int[] due = {7, 8, 4, 1, 1, 1, 1, 3, 7, 2, 3, 4};
        OffsetBook book = book();
        Check.put(book, "abcd");
        for (int what : around(due.length)) {
            Check.due("count(" + what + ")", book.count(what), within(what, due.length) ? due[what] : -1);
        }
    }

    /** What an ACT brought is not there when it is UNDONE: neither STATEMENTS nor GAUGES. */
    private static void whatIsGoneIsNotThere() {
        OffsetBook book = book();
        Check.due("image", book.image(0), STATEMENTS);
        Check.due("tell", Check.tell(book, "g=h;g=h+1;g=1;c=9"), STATEMENTS + 4);
        for (int way = 0; way <= 1; way++) {
            Check.due("gone", way == 0 ? book.undo() : book.back(0), way == 0 ? 3 : STATEMENTS);
            statementIsNotThere(book, STATEMENTS);
            statementIsNotThere(book, STATEMENTS + 1);
            gaugeIsNotThere(book, GAUGES);
            gaugeIsNotThere(book, GAUGES + 1);
            Check.due("h", Check.gauge(book, "h"), -1);
            Check.due("GROUPS", book.count(7), 3);
            Check.due("twos that are known", book.count(8), 7);
            Check.due("HANG", book.count(9), 2);
            Check.due("twos(0)", book.twos(0), 1);
            Check.due("group(0, 1)", book.group(0, 1), 4);
            Check.due("blame(0)", book.blame(0), 3);
            Check.due("tell", Check.tell(book, "g=h;g=h+1;g=1;c=9"), STATEMENTS + 4);
        }
    }

    private static void statementIsNotThere(OffsetBook book, int s) {
        for (int what = 0; what <= 4; what++) {
            Check.due("statement(" + s + ", " + what + ")", book.statement(s, what), -1);
        }
        Check.due("amount(" + s + ")", book.amount(s), NOTHING);
        Check.due("cut(" + s + ", NONE)", book.cut(s, -1), -1);
        Check.due("retract(" + s + ")", book.retract(s), -1);
        Check.due("restore(" + s + ")", book.restore(s), -1);
        Check.due("pin(0, 0, " + s + ")", book.pin(0, 0, s), -1);
    }

    private static void gaugeIsNotThere(OffsetBook book, int g) {
        Check.due("letter(" + g + ", NONE)", book.letter(g, -1), -1);
        Check.due("letter(" + g + ", 0)", book.letter(g, 0), -1);
        Check.due("difference(" + g + ", 0)", book.difference(g, 0), NOTHING);
        Check.due("difference(0, " + g + ")", book.difference(0, g), NOTHING);
        Check.due("offset(" + g + ")", book.offset(g), NOTHING);
        Check.due("group(" + g + ", 0)", book.group(g, 0), -1);
        Check.due("order(" + g + ", 0)", book.order(g, 0), -1);
        Check.due("span(" + g + ")", book.span(g), NOTHING);
        Check.due("mean(" + g + ")", book.mean(g), NOTHING);
        Check.due("chain(" + g + ", 0, NONE)", book.chain(g, 0, -1), -1);
        Check.due("chain(0, " + g + ", NONE)", book.chain(0, g, -1), -1);
        Check.due("chain of it", book.chain(g, g, -1), -1);
    }
}
