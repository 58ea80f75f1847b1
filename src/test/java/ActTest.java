/** ACTS and what undoes them, PINS and IMAGES: promises 6 to 8 and 23 to 26. */
public final class ActTest {
    public static void main(String[] args) {
        retractAndRestore();
        judgedAnew();
        undoing();
        lastTwenty();
        undoLeavesTapeAndPins();
        pins();
        pinsStay();
        images();
        imagesAreWhole();
        imagesOfAllNames();
        imagesOfAllStatements();
        imagesAndActs();
        Check.finish("ActTest");
    }

    private static void retractAndRestore() {
        OffsetBook book = Check.told("a=5;b=a+1;b=7;b=6");
        Check.due("restore of one that stands", book.restore(0), -1);
        Check.due("retract(4)", book.retract(4), -1);
        Check.due("retract(-1)", book.retract(-1), -1);
        Check.due("retract(MAX)", book.retract(Integer.MAX_VALUE), -1);
        Check.due("restore(4)", book.restore(4), -1);
        Check.due("restore(-1)", book.restore(-1), -1);
        Check.due("no ACT", book.count(10), 1);
        Check.due("retract(1)", book.retract(1), 2);
        Check.due("retract(1)", book.retract(1), -1);
        Check.due("what it is", book.statement(1, 0), 4);
        Check.due("its GAUGES", book.statement(1, 1), 2);
        Check.due("its GAUGES", book.statement(1, 2), 1);
        Check.due("HANGS", book.statement(1, 3), 0);
        Check.due("RELY", book.statement(1, 4), 0);
        Check.due("amount", book.amount(1), 1);
        Check.due("joins now", book.statement(2, 0), 0);
        Check.due("refused now", book.statement(3, 0), 2);
        Check.due("b", book.offset(2), 7);
        Check.due("restore(1)", book.restore(1), 3);
        Check.due("joins in its order", book.statement(1, 0), 0);
        Check.due("b", book.offset(2), 6);
        Check.due("refused again", book.statement(2, 0), 2);
        Check.due("known again", book.statement(3, 0), 1);
        Check.due("ACTS", book.count(10), 3);
    }

    private static void judgedAnew() {
        OffsetBook book = Check.told("a=b;b=c;a=c+1;c=a;d=c");
        Check.due("retract(0)", book.retract(0), 3);
        Check.due("joins", book.statement(2, 0), 0);
        Check.due("refused", book.statement(3, 0), 2);
        Check.due("a d", book.difference(1, 4), 1);
        Check.due("retract(2)", book.retract(2), 3);
        Check.due("joins", book.statement(3, 0), 0);
        Check.due("restore(0)", book.restore(0), 4);
        Check.due("known", book.statement(3, 0), 1);
        Check.due("restore(2)", book.restore(2), 4);
        Check.due("refused", book.statement(2, 0), 2);
        Check.due("a d", book.difference(1, 4), 0);
    }

    private static void undoing() {
        OffsetBook book = Check.told("a=5", "b=a+1;c=b");
        Check.due("retract(0)", book.retract(0), 2);
        Check.due("restore(0)", book.restore(0), 3);
        Check.due("undo", book.undo(), 3);
        Check.due("retracted", book.statement(0, 0), 4);
        Check.due("undo", book.undo(), 2);
        Check.due("joins", book.statement(0, 0), 0);
        Check.due("c", book.offset(3), 6);
        Check.due("undo", book.undo(), 1);
        Check.due("GAUGES", book.count(0), 2);
        Check.due("STATEMENTS", book.count(1), 1);
        Check.due("c", Check.gauge(book, "c"), -1);
        Check.due("a", Check.gauge(book, "a"), 1);
        Check.due("a new one in its place", Check.tell(book, "zz=1"), 2);
        Check.due("zz", Check.gauge(book, "zz"), 2);
        Check.due("b", Check.gauge(book, "b"), -1);
        Check.due("undo", book.undo(), 1);
        Check.due("undo", book.undo(), 0);
        Check.due("GAUGES", book.count(0), 1);
        Check.due("undo", book.undo(), -1);
        Check.due("a fault is no ACT", Check.tell(book, "a"), Check.fault(1, 1));
        Check.due("undo", book.undo(), -1);
        retractedThenToldAgain();
    }

    private static void retractedThenToldAgain() {
        OffsetBook book = Check.told("a=5", "b=6");
        Check.due("retract(1)", book.retract(1), 1);
        Check.due("undo", book.undo(), 2);
        Check.due("undo", book.undo(), 1);
        Check.due("tell", Check.tell(book, "c=7"), 2);
        Check.due("joins", book.statement(1, 0), 0);
        Check.due("retract(1)", book.retract(1), 1);
        Check.due("image", book.image(0), 2);
        Check.due("restore(1)", book.restore(1), 2);
        Check.due("back", book.back(0), 2);
        Check.due("retracted", book.statement(1, 0), 4);
    }

    private static void lastTwenty() {
        OffsetBook book = new OffsetBook();
        for (int n = 1; n <= 23; n++) {
            Check.due("tell", Check.tell(book, "" + (char) ('a' + n) + "=1"), n);
            Check.due("ACTS", book.count(10), Math.min(n, 20));
        }
        for (int n = 19; n >= 0; n--) {
            Check.due("undo", book.undo(), n);
            Check.due("STATEMENTS", book.count(1), n + 3);
        }
        Check.due("undo", book.undo(), -1);
        Check.due("STATEMENTS", book.count(1), 3);
        for (int n = 1; n <= 25; n++) {
            Check.due("turn", n % 2 == 1 ? book.retract(1) : book.restore(1), n % 2 == 1 ? 2 : 3);
        }
        for (int n = 19; n >= 0; n--) {
            Check.due("undo", book.undo(), n);
            Check.due("RETRACTED", book.count(6), n % 2 == 0 ? 1 : 0);
        }
        Check.due("undo", book.undo(), -1);
    }

    private static void undoLeavesTapeAndPins() {
        OffsetBook book = Check.told("a=5", "b=6");
        Check.due("pin", book.pin(0, 1, 1), 0);
        Check.due("image", book.image(1), 2);
        Check.put(book, "c=7");
        Check.due("undo", book.undo(), 1);
        Check.due("TAPE", book.count(11), 3);
        Check.due("PIN", book.pinned(0, 1), 1);
        Check.due("tell", book.tell(), 2);
        Check.due("c", book.letter(2, 0), 3);
        Check.due("back", book.back(1), 2);
        Check.due("b", book.letter(2, 0), 2);
    }

    private static void pins() {
        OffsetBook book = Check.told("a=5;b=a+1;b=7;c=b;c=9");
        Check.due("pin", book.pin(0, 0, 0), 0);
        Check.due("pin", book.pin(0, 3, 2), 0);
        Check.due("the other sort", book.pin(0, 1, 1), -2);
        Check.due("the other sort", book.pin(0, 0, 1), -2);
        Check.due("pin", book.pin(1, 0, 1), 1);
        Check.due("the other sort", book.pin(1, 0, 0), -2);
        Check.due("in its place", book.pin(1, 0, 3), 1);
        Check.due("pinned", book.pinned(0, 0), 0);
        Check.due("pinned", book.pinned(0, 1), -2);
        Check.due("pinned", book.pinned(0, 3), 2);
        Check.due("pinned", book.pinned(1, 0), 3);
        Check.due("in its place", book.pin(0, 3, 4), 0);
        Check.due("pinned", book.pinned(0, 3), 4);
        int[][] without = {{2, 0, 0}, {-1, 0, 0}, {0, 4, 0}, {0, -1, 0}, {0, 0, 5}, {0, 0, -1},
            {Integer.MAX_VALUE, 0, 0}, {0, Integer.MIN_VALUE, 0}, {1, 1, Integer.MAX_VALUE}};
        for (int[] call : without) {
            Check.due("pin without these", book.pin(call[0], call[1], call[2]), -1);
        }
        Check.due("pinned(2, 0)", book.pinned(2, 0), -1);
        Check.due("pinned(-1, 0)", book.pinned(-1, 0), -1);
        Check.due("pinned(0, 4)", book.pinned(0, 4), -1);
        Check.due("pinned(0, -1)", book.pinned(0, -1), -1);
        Check.due("no ACTS", book.count(10), 1);
    }

    private static void pinsStay() {
        OffsetBook book = Check.told("a=5", "a=b");
        Check.due("pin", book.pin(1, 2, 1), 1);
        Check.due("retract", book.retract(1), 1);
        Check.due("pinned", book.pinned(1, 2), 1);
        Check.due("undo", book.undo(), 2);
        Check.due("undo", book.undo(), 1);
        Check.due("its number as it was", book.pinned(1, 2), 1);
        Check.due("pin of what is not there", book.pin(1, 2, 1), -1);
        Check.due("the sort stays", book.pin(1, 2, 0), -2);
    }

    private static void images() {
        OffsetBook book = Check.told("a=5;b=a+1");
        Check.due("back(0)", book.back(0), -1);
        Check.due("back(1)", book.back(1), -1);
        Check.due("back(2)", book.back(2), -1);
        Check.due("back(-1)", book.back(-1), -1);
        Check.due("image(2)", book.image(2), -1);
        Check.due("image(-1)", book.image(-1), -1);
        Check.due("ACTS", book.count(10), 1);
        Check.due("retract", book.retract(1), 1);
        Check.due("image(1)", book.image(1), 2);
        Check.due("ACTS", book.count(10), 2);
        Check.due("back(0)", book.back(0), -1);
        Check.due("tell", Check.tell(book, "cc=8;b=cc"), 4);
        Check.due("restore", book.restore(1), 3);
        Check.due("image(0)", book.image(0), 4);
        Check.put(book, "cc");
        Check.due("pin", book.pin(0, 0, 2), 0);
        Check.due("back(1)", book.back(1), 2);
        Check.due("TAPE", book.count(11), 2);
        Check.due("cc", book.gauge(), -1);
        Check.due("PIN", book.pinned(0, 0), 2);
        Check.due("ACTS", book.count(10), 0);
        Check.due("undo", book.undo(), -1);
        Check.due("retracted", book.statement(1, 0), 4);
        Check.due("GAUGES", book.count(0), 3);
        Check.due("difference", book.difference(2, 1), Check.NOTHING);
        Check.due("back(0)", book.back(0), 4);
        Check.due("joins", book.statement(1, 0), 0);
        Check.due("refused", book.statement(3, 0), 2);
        Check.due("cc", Check.gauge(book, "cc"), 3);
        Check.due("cc", book.letter(3, 1), 3);
        Check.due("difference", book.difference(3, 2), 2);
    }

    private static void imagesAreWhole() {
        OffsetBook book = Check.told("ab=5;c=ab+2");
        Check.due("image", book.image(1), 2);
        Check.due("undo", book.undo(), 0);
        Check.due("tell", Check.tell(book, "x=y-1;zzz=1;x=9"), 3);
        Check.due("retract", book.retract(0), 2);
        Check.due("retract", book.retract(2), 1);
        Check.due("back", book.back(1), 2);
        Check.due("letters", book.letter(1, -1), 2);
        Check.due("letter", book.letter(1, 1), 2);
        Check.due("letters", book.letter(2, -1), 1);
        Check.due("first", book.statement(1, 1), 2);
        Check.due("second", book.statement(1, 2), 1);
        Check.due("amount", book.amount(0), 5);
        Check.due("amount", book.amount(1), 2);
        Check.due("RETRACTED", book.count(6), 0);
        Check.due("tell", Check.tell(book, "d=8"), 3);
        Check.due("not RETRACTED, as the one that was there", book.statement(2, 0), 0);
    }

    private static void imagesOfAllNames() {
        OffsetBook book = Check.withNames(40);
        Check.due("image", book.image(1), 40);
        for (int n = 3; n >= 0; n--) {
            Check.due("undo", book.undo(), n);
        }
        for (int n = 0; n < 40; n++) {
            Check.tell(book, "z" + Check.name(39 - n) + "z=2");
        }
        Check.due("image", book.image(0), 40);
        Check.due("back", book.back(1), 40);
        for (int n = 0; n < 40; n++) {
            String name = Check.name(n);
            Check.due("letters", book.letter(n + 1, -1), 2);
            Check.due("letter", book.letter(n + 1, 0), name.charAt(0) - 'a' + 1);
            Check.due("letter", book.letter(n + 1, 1), name.charAt(1) - 'a' + 1);
        }
        Check.due("back", book.back(0), 40);
        Check.due("letters", book.letter(40, -1), 4);
        Check.due("the last NAME", Check.gauge(book, "z" + Check.name(0) + "z"), 40);
    }

    private static void imagesOfAllStatements() {
        OffsetBook book = Check.withStatements(119);
        Check.due("tell", Check.tell(book, "a=b-7"), 120);
        Check.due("retract", book.retract(118), 119);
        Check.due("image", book.image(0), 120);
        Check.due("restore", book.restore(118), 120);
        for (int n = 12; n >= 0; n--) {
            Check.due("undo", book.undo(), n);
        }
        Check.due("tell", Check.tell(book, "q=3"), 1);
        Check.due("back", book.back(0), 120);
        Check.due("what it is", book.statement(117, 0), 1);
        Check.due("what it is", book.statement(118, 0), 4);
        Check.due("what it is", book.statement(119, 0), 0);
        Check.due("its second", book.statement(119, 2), 2);
        Check.due("amount", book.amount(119), -7);
        Check.due("a", book.offset(1), 1);
        Check.due("b", book.offset(2), 8);
    }

    private static void imagesAndActs() {
        OffsetBook book = Check.told("a=5");
        Check.due("image", book.image(0), 1);
        Check.due("tell", Check.tell(book, "d=1;e=a"), 3);
        Check.due("undo", book.undo(), 1);
        Check.due("tell", Check.tell(book, "x=1;y=a"), 3);
        Check.due("back", book.back(0), 1);
        Check.due("back once more", book.back(0), 1);
        Check.due("tell", Check.tell(book, "f=2"), 2);
        Check.due("undo", book.undo(), 0);
        Check.due("undo", book.undo(), -1);
        Check.due("GAUGES", book.count(0), 2);
        Check.due("image anew", book.image(0), 1);
        Check.due("retract", book.retract(0), 0);
        Check.due("back", book.back(0), 1);
        Check.due("a", book.offset(1), 5);
    }
}
