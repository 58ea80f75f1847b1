/** Promise 1: what every question answers of a new object, which has the GROUND alone. */
public final class NewObjectTest {
    private static final int[] EDGES = {Integer.MIN_VALUE, -3, -2, -1, 0, 1, 2, 3, 4, 5, 6, 11, 12,
        39, 40, 41, 119, 120, 121, 300, Integer.MAX_VALUE};

    public static void main(String[] args) {
        counts();
        theGroundIsThere();
        noOtherGaugeIsThere();
        noStatementIsThere();
        noTwos();
        pinsAreEmpty();
        nothingCanBeTakenBack();
        theTapeIsEmpty();
        everyObjectIsNew();
        Check.finish("NewObjectTest");
    }

    private static void counts() {
        int[] due = {1, 0, 0, 0, 0, 0, 0, 1, 0, 0, 0, 0};
        for (int what : EDGES) {
            boolean there = what >= 0 && what < due.length;
            Check.due("count(" + what + ")", new OffsetBook().count(what), there ? due[what] : -1);
        }
        for (int what = 0; what < due.length; what++) {
            Check.due("count(" + what + ")", new OffsetBook().count(what), due[what]);
        }
    }

    private static void theGroundIsThere() {
        OffsetBook book = new OffsetBook();
        Check.due("offset(0)", book.offset(0), 0);
        Check.due("span(0)", book.span(0), 0);
        Check.due("mean(0)", book.mean(0), Double.doubleToLongBits(0.0));
        Check.due("difference(0, 0)", book.difference(0, 0), 0);
        for (int k : EDGES) {
            Check.due("letter(0, " + k + ")", book.letter(0, k), k == -1 ? 0 : -1);
            Check.due("order(0, " + k + ")", book.order(0, k), k < 0 ? -1 : k == 0 ? 0 : -2);
            Check.due("group(0, " + k + ")", book.group(0, k), k == 0 ? 0 : k == 1 ? 1 : -1);
            Check.due("chain(0, 0, " + k + ")", book.chain(0, 0, k), k < -1 ? -1 : k == -1 ? 0 : -2);
        }
    }

    private static void noOtherGaugeIsThere() {
        OffsetBook book = new OffsetBook();
        for (int gauge : EDGES) {
            if (gauge != 0) {
                Check.due("offset(" + gauge + ")", book.offset(gauge), Check.NOTHING);
                Check.due("span(" + gauge + ")", book.span(gauge), Check.NOTHING);
                Check.due("mean(" + gauge + ")", book.mean(gauge), Check.NOTHING);
                Check.due("difference(" + gauge + ", 0)", book.difference(gauge, 0), Check.NOTHING);
                Check.due("difference(0, " + gauge + ")", book.difference(0, gauge), Check.NOTHING);
                Check.due("difference of it", book.difference(gauge, gauge), Check.NOTHING);
                Check.due("letter(" + gauge + ", -1)", book.letter(gauge, -1), -1);
                Check.due("letter(" + gauge + ", 0)", book.letter(gauge, 0), -1);
                Check.due("order(" + gauge + ", 0)", book.order(gauge, 0), -1);
                Check.due("group(" + gauge + ", 0)", book.group(gauge, 0), -1);
                Check.due("group(" + gauge + ", 1)", book.group(gauge, 1), -1);
                Check.due("chain(" + gauge + ", 0, -1)", book.chain(gauge, 0, -1), -1);
                Check.due("chain(0, " + gauge + ", -1)", book.chain(0, gauge, -1), -1);
            }
        }
    }

    private static void noStatementIsThere() {
        OffsetBook book = new OffsetBook();
        for (int number : EDGES) {
            for (int what = -1; what <= 5; what++) {
                Check.due("statement(" + number + ", " + what + ")", book.statement(number, what), -1);
            }
            Check.due("amount(" + number + ")", book.amount(number), Check.NOTHING);
            Check.due("cut(" + number + ", -1)", book.cut(number, -1), -1);
            Check.due("cut(" + number + ", 0)", book.cut(number, 0), -1);
            Check.due("retract(" + number + ")", book.retract(number), -1);
            Check.due("restore(" + number + ")", book.restore(number), -1);
            Check.due("pin(0, 0, " + number + ")", book.pin(0, 0, number), -1);
        }
    }

    private static void noTwos() {
        long[] amounts = {Long.MIN_VALUE, -1, 0, 1, 1000000000000000000L, Long.MAX_VALUE};
        for (long amount : amounts) {
            Check.due("twos(" + amount + ")", new OffsetBook().twos(amount), amount < 0 ? -1 : 0);
        }
    }

    private static void pinsAreEmpty() {
        OffsetBook book = new OffsetBook();
        for (int pin : EDGES) {
            for (int room : EDGES) {
                boolean there = pin >= 0 && pin <= 1 && room >= 0 && room <= 3;
                Check.due("pinned(" + pin + ", " + room + ")", book.pinned(pin, room), there ? -2 : -1);
            }
        }
    }

    private static void nothingCanBeTakenBack() {
        OffsetBook book = new OffsetBook();
        Check.due("undo()", book.undo(), -1);
        for (int k : EDGES) {
            Check.due("back(" + k + ")", book.back(k), -1);
        }
        for (int what : EDGES) {
            Check.due("blame(" + what + ")", book.blame(what), what == 0 || what == 1 ? -2 : -1);
        }
        for (int k : EDGES) {
            Check.due("image(" + k + ")", new OffsetBook().image(k), k == 0 || k == 1 ? 0 : -1);
        }
    }

    private static void theTapeIsEmpty() {
        Check.due("tell()", new OffsetBook().tell(), Check.fault(0, 1));
        Check.due("test()", new OffsetBook().test(), Check.fault(0, 1));
        Check.due("gauge()", new OffsetBook().gauge(), -1);
        for (int n : EDGES) {
            Check.due("end(" + n + ")", new OffsetBook().end(n), n == 0 ? 0 : -1);
        }
        Check.due("feed()", new OffsetBook().feed(0, 0, 0, 0, 0), 20);
    }

    /** What one object has been told is nothing to another. */
    private static void everyObjectIsNew() {
        OffsetBook first = Check.told("a=5;b=a;a=6");
        first.image(0);
        first.pin(0, 0, 0);
        Check.put(first, "c=1");
        counts();
        theTapeIsEmpty();
        OffsetBook second = new OffsetBook();
        Check.due("pinned(0, 0)", second.pinned(0, 0), -2);
        Check.due("back(0)", second.back(0), -1);
        Check.due("undo()", second.undo(), -1);
        Check.due("the first still has its STATEMENTS", first.count(1), 3);
        Check.due("the first still has its TAPE", first.tell(), 4);
    }
}
