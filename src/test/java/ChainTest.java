import java.util.Arrays;

/** CHAINS, what HANGS, RELY, CUT and BLAME: promises 9 and 20 to 22. */
public final class ChainTest {
    public static void main(String[] args) {
        chains();
        firstOfSeveral();
        hanging();
        ringsOfAllLengths();
        rowsOfAllLengths();
        cuts();
        oneCutAfterAnother();
        aWayTakenBack();
        fewestOnTheFirstSide();
        manyWays();
        waysGivenUp();
        theLastNumbers();
        blame();
        blameFromFirstToSecond();
        Check.finish("ChainTest");
    }

    private static void chain(OffsetBook book, int one, int other, int... due) {
        String call = "chain(" + one + ", " + other + ", ";
        Check.due(call + "NONE)", book.chain(one, other, -1), due.length);
        for (int k = 0; k < due.length; k++) {
            Check.due(call + k + ")", book.chain(one, other, k), due[k]);
        }
        Check.due(call + due.length + ")", book.chain(one, other, due.length), -2);
        Check.due(call + "MAX)", book.chain(one, other, Integer.MAX_VALUE), -2);
        Check.due(call + "-2)", book.chain(one, other, -2), -1);
    }

    private static void chains() {
        OffsetBook book = Check.told("a=b+5;b=c-2;c=d;a=d+3;e=f;d=a");
        chain(book, 1, 1);
        chain(book, 1, 2, 0);
        chain(book, 1, 3, 0, 1);
        chain(book, 3, 1, 1, 0);
        chain(book, 1, 4, 3);
        chain(book, 2, 4, 0, 3);
        chain(book, 4, 2, 2, 1);
        chain(book, 6, 5, 4);
        Check.due("two GROUPS", book.chain(1, 5, -1), -2);
        Check.due("two GROUPS", book.chain(1, 5, 0), -2);
        Check.due("two GROUPS", book.chain(0, 5, 9), -2);
        Check.due("two GROUPS, other k", book.chain(0, 5, -2), -1);
        Check.due("without one", book.chain(7, 1, -1), -1);
        Check.due("without one", book.chain(1, 7, 0), -1);
        Check.due("without one", book.chain(-1, 1, 0), -1);
        Check.due("without one", book.chain(1, Integer.MIN_VALUE, 0), -1);
        Check.due("retract", book.retract(3), 4);
        chain(book, 1, 4, 0, 1, 2);
        Check.due("retract", book.retract(1), 4);
        chain(book, 1, 4, 5);
    }

    private static void firstOfSeveral() {
        // From a (5) to d (1) by b: 3, 1; by c: 2, 4 or 6, 4; by e: 5, 0.
        OffsetBook book = Check.told("d=e;d=b;c=a;a=b;c=d;e=a;a=c");
        chain(book, 5, 1, 2, 4);
        chain(book, 1, 5, 0, 5);
        chain(book, 4, 5, 2);
        chain(book, 5, 4, 2);
        OffsetBook twice = Check.told("b=c;a=b;a=b;b=c;a=c");
        Check.due("retract", twice.retract(4), 4);
        chain(twice, 2, 3, 0, 1);
        chain(twice, 3, 2, 1, 0);
    }

    private static void hang(OffsetBook book, int... rely) {
        int hanging = 0;
        for (int s = 0; s < rely.length; s++) {
            Check.due("statement(" + s + ", 3)", book.statement(s, 3), rely[s] > 0 ? 1 : 0);
            Check.due("statement(" + s + ", 4)", book.statement(s, 4), rely[s]);
            hanging += rely[s] > 0 ? 1 : 0;
        }
        Check.due("count(9)", book.count(9), hanging);
    }

    private static void hanging() {
        OffsetBook book = Check.told("a=b;b=c;c=a;c=d;d=e;f=1;a=d+1");
        hang(book, 0, 0, 0, 6, 4, 1, 0);
        Check.tell(book, "e=c");
        hang(book, 0, 0, 0, 0, 0, 1, 0, 0);
        Check.tell(book, "g=e;g=f+1;b=999999999999999999;h=999999999999999999;i=h+5");
        hang(book, 0, 0, 0, 0, 0, 14, 0, 0, 20, 18, 0, 8, 0);
        Check.due("retract", book.retract(0), 9);
        hang(book, 0, 8, 8, 0, 0, 14, 0, 0, 20, 18, 0, 8, 0);
    }

    private static OffsetBook inTwelves(String[] statements) {
        OffsetBook book = new OffsetBook();
        for (int n = 0; n < statements.length; n += 12) {
            int end = Math.min(n + 12, statements.length);
            String text = String.join(";", Arrays.copyOfRange(statements, n, end));
            Check.due("tell " + text, Check.tell(book, text), end);
        }
        return book;
    }

    /** None of a ring HANGS, however long it is and wherever it was closed; what is at it does. */
    private static void ringsOfAllLengths() {
        for (int length = 2; length <= 39; length++) {
            for (int first : new int[] {0, 1, length / 2, length - 1}) {
                String[] ring = new String[length + 1];
                for (int n = 0; n < length; n++) {
                    int at = (first + n) % length;
                    ring[n] = Check.name(at) + "=" + Check.name((at + 1) % length);
                }
                ring[length] = Check.name(first) + "=" + Check.name(39);
                OffsetBook book = inTwelves(ring);
                int[] rely = new int[length + 1];
                rely[length] = length;
                hang(book, rely);
            }
        }
    }

    /** All of a row HANG, and by each the GAUGES on one side are known from those on the other. */
    private static void rowsOfAllLengths() {
        for (int length : new int[] {1, 2, 3, 20, 39, 40}) {
            String[] row = new String[length];
            int[] rely = new int[length];
            int[] chain = new int[length];
            for (int n = 0; n < length; n++) {
                row[n] = Check.name(n) + "=" + (n == 0 ? "1" : Check.name(n - 1) + "+1");
                rely[n] = (n + 1) * (length - n);
                chain[n] = n;
            }
            OffsetBook book = inTwelves(row);
            hang(book, rely);
            chain(book, 0, length, chain);
        }
    }

    private static void cut(OffsetBook book, int statement, int... due) {
        String call = "cut(" + statement + ", ";
        Check.due(call + "NONE)", book.cut(statement, -1), due.length);
        for (int k = 0; k < due.length; k++) {
            Check.due(call + k + ")", book.cut(statement, k), due[k]);
        }
        Check.due(call + due.length + ")", book.cut(statement, due.length), -2);
        Check.due(call + "MAX)", book.cut(statement, Integer.MAX_VALUE), -2);
        Check.due(call + "-2)", book.cut(statement, -2), -1);
        Check.due(call + "MIN)", book.cut(statement, Integer.MIN_VALUE), -1);
    }

    private static void cuts() {
        OffsetBook book = Check.told("a=b;b=c;c=a;c=d;a=d+1;a=b+1;b=a+1");
        cut(book, 4, 3);
        cut(book, 5, 0, 2);
        cut(book, 6, 0, 1);
        Check.due("not REFUSED", book.cut(0, -1), -1);
        Check.due("KNOWN", book.cut(2, 0), -1);
        Check.due("without it", book.cut(7, -1), -1);
        Check.due("without it", book.cut(-1, -1), -1);
        Check.due("retract", book.retract(4), 4);
        Check.due("RETRACTED", book.cut(4, -1), -1);
    }

    private static void oneCutAfterAnother() {
        OffsetBook book = Check.told("a=b;b=c;b=c;b=c;c=d;c=d;a=c+1;b=d+1");
        Check.due("cut(6, 0)", book.cut(6, 0), 0);
        Check.due("cut(7, 0)", book.cut(7, 0), 4);
        Check.due("cut(7, 1)", book.cut(7, 1), 5);
        chain(book, 4, 1, 4, 1, 0);
        Check.due("cut(7, NONE)", book.cut(7, -1), 2);
        chain(book, 1, 4, 0, 1, 4);
        Check.due("cut(6, NONE)", book.cut(6, -1), 1);
        hang(book, 3, 0, 0, 0, 0, 0, 0, 0);
        Check.due("cut(7, 1)", book.cut(7, 1), 5);
        hang(book, 3, 0, 0, 0, 0, 0, 0, 0);
    }

    /**
     * Whoever counts ways from s to t that share no STATEMENT meets the short one by a and b
     * first, has to give up the step from a to b for a second way, and to take it for a third.
     */
    private static void aWayTakenBack() {
        for (String middle : new String[] {"a=b", "b=a"}) {
            OffsetBook book = Check.told("s=a;" + middle + ";b=t;s=c;c=d;d=b;a=e;e=f;f=t;s=t+1");
            cut(book, 9, 0, 3);
            Check.tell(book, "s=g;g=h;h=i;i=j;j=a;b=k;k=l;l=m;m=n;n=t;t=s+1");
            cut(book, 9, 0, 3, 10);
            cut(book, 20, 2, 8, 19);
        }
    }

    private static void fewestOnTheFirstSide() {
        OffsetBook book = Check.told("a=b;b=c;c=d;a=d+1;d=a+1");
        cut(book, 3, 0);
        cut(book, 4, 2);
        OffsetBook two = Check.told("a=b;a=c;b=d;c=d;b=c;d=e;d=e;a=e+1;e=a+1");
        cut(two, 7, 0, 1);
        cut(two, 8, 5, 6);
    }

    private static void manyWays() {
        OffsetBook book = new OffsetBook();
        for (int n = 0; n < 29; n++) {
            Check.due("tell", Check.tell(book, "a=1;a=1;a=1;a=1"), 4 * n + 4);
        }
        Check.due("tell", Check.tell(book, "a=1;a=1;a=1;a=2"), 120);
        Check.due("all of them", book.cut(119, -1), 119);
        Check.due("the last", book.cut(119, 118), 118);
        Check.due("behind it", book.cut(119, 119), -2);
        Check.due("blame", book.blame(0), 0);
        Check.due("blame", book.blame(1), 1);
    }

    /** A second way gives up a step of the first one, which can then be taken either way again. */
    private static void waysGivenUp() {
        cut(Check.told("c=a;i=d;b=g;i=c;c=g;d=h;i=f;b=i;h=f;a=f;d=a;a=b+1"), 11, 4, 7);
        cut(Check.told("d=f;b=f;d=c;a=b;g=f;c=b;h=c;d=a;e=f;a=e;a=g;a=g", "a=b+1"), 12, 1, 2, 3);
        cut(Check.told("a=g;g=c;e=b;b=c;f=d;e=g;f=c;f=h;d=f;a=d;d=a;c=f", "a=b+1"), 12, 3, 5);
        cut(Check.told("g=a;c=e;i=c;b=h;a=e;h=a;i=b;d=f;g=f;h=c;b=d;i=h", "i=g;c=a;a=b+1"), 14, 3, 6, 8);
    }

    /** All of this holds up to the last STATEMENT that can be kept. */
    private static void theLastNumbers() {
        OffsetBook book = Check.withStatements(115);
        Check.due("tell", Check.tell(book, "b=c;c=d;d=b;e=d;e=b+1"), 120);
        int[] rely = {0, 0, 0, 3, 0};
        for (int n = 0; n < 5; n++) {
            Check.due("HANGS", book.statement(115 + n, 3), n == 3 ? 1 : 0);
            Check.due("RELY", book.statement(115 + n, 4), rely[n]);
        }
        Check.due("HANG", book.count(9), 1);
        chain(book, 5, 2, 118, 117);
        chain(book, 2, 4, 117);
        chain(book, 1, 0, 0);
        cut(book, 119, 118);
        Check.due("blame(0)", book.blame(0), 117);
        Check.due("blame(1)", book.blame(1), 1);
        Check.due("retract", book.retract(118), 119);
        Check.due("it JOINS", book.statement(119, 0), 0);
        Check.due("RELY", book.statement(119, 4), 3);
        chain(book, 5, 4, 119, 117);
    }

    private static void blame() {
        OffsetBook book = Check.told("a=b;b=c;c=d;e=d");
        Check.due("nothing REFUSED", book.blame(0), -2);
        Check.due("nothing REFUSED", book.blame(1), -2);
        Check.due("blame(2)", book.blame(2), -1);
        Check.due("blame(-1)", book.blame(-1), -1);
        Check.tell(book, "e=c+1");
        Check.due("of several the least", book.blame(0), 2);
        Check.due("how many", book.blame(1), 1);
        Check.tell(book, "d=e-1");
        Check.due("blame", book.blame(0), 3);
        Check.due("how many", book.blame(1), 2);
        Check.tell(book, "a=d-1;b=d+1;a=c+9");
        Check.due("blame", book.blame(0), 1);
        Check.due("how many", book.blame(1), 3);
        Check.due("blame(2)", book.blame(2), -1);
    }

    /** From a to b the CHAIN is 0, 3 (not 1, 2), from b to a it is 2, 1 (not 3, 0). */
    private static void blameFromFirstToSecond() {
        OffsetBook book = Check.told("a=c;a=d;d=b;c=b");
        chain(book, 1, 4, 0, 3);
        chain(book, 4, 1, 2, 1);
        Check.due("tell", Check.tell(book, "b=a+1"), 5);
        Check.due("blame(0)", book.blame(0), 1);
        Check.due("blame(1)", book.blame(1), 1);
        Check.due("tell", Check.tell(book, "a=b+1;a=b+2"), 7);
        Check.due("blame(0)", book.blame(0), 0);
        Check.due("blame(1)", book.blame(1), 2);
        Check.due("retract", book.retract(6), 4);
        Check.due("of several the least", book.blame(0), 0);
        Check.due("blame(1)", book.blame(1), 1);
    }
}
