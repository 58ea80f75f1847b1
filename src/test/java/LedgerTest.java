/** What STATEMENTS are, and what is known by them: promises 4, 9, 10, 13 to 19 and 27. */
public final class LedgerTest {
    private static final long MOST = 1000000000000000000L;

    public static void main(String[] args) {
        verdicts();
        beyond();
        beyondStays();
        differences();
        groups();
        orders();
        everyGroupByItself();
        means();
        powersOfTwo();
        twos();
        counts();
        countsOfAllThatCanBe();
        Check.finish("LedgerTest");
    }

    private static void what(OffsetBook book, int... due) {
        for (int s = 0; s < due.length; s++) {
            Check.due("statement(" + s + ", 0)", book.statement(s, 0), due[s]);
        }
        Check.due("statement behind", book.statement(due.length, 0), -1);
    }

    private static void verdicts() {
        OffsetBook book = Check.told("a=b+5;b=c-2;a=c+3;c=a;b=7;a=12;a=13;d=e");
        what(book, 0, 0, 1, 2, 0, 1, 2, 0);
        Check.due("statement(-1, 0)", book.statement(-1, 0), -1);
        Check.due("statement(0, 5)", book.statement(0, 5), -1);
        Check.due("statement(0, -1)", book.statement(0, -1), -1);
        Check.due("statement(MIN, 0)", book.statement(Integer.MIN_VALUE, 0), -1);
        Check.due("statement(MAX, 0)", book.statement(Integer.MAX_VALUE, 0), -1);
    }

    private static void beyond() {
        OffsetBook book = Check.told("a=999999999999999999;b=a+1;c=b+1;d=-1;e=a-999999999999999999");
        what(book, 0, 0, 3, 3, 0);
        Check.due("of a", book.difference(2, 0), MOST);
        Check.due("of c", book.difference(3, 0), Check.NOTHING);
        Check.due("gauges come all the same", book.count(0), 6);
        Check.due("groups", book.count(7), 3);
        Check.due("two groups", Check.tell(book, "f=g+999999999999999999;h=f+1;i=j+999999999999999999"), 8);
        Check.due("joined at their ends", Check.test(book, "h=b+0"), 0);
        Check.due("joined at one end", Check.test(book, "h=b+1"), 3);
        Check.due("joined at one end", Check.test(book, "g=b"), 3);
        Check.due("joined at one end", Check.test(book, "h=g"), 2);
        Check.due("of far ends", Check.test(book, "g=b+999999999999999999"), 3);
        Check.due("of far ends", Check.test(book, "h=-999999999999999999"), 3);
        Check.due("room for one", Check.test(book, "i=b"), 0);
        Check.due("room for one", Check.test(book, "i=b-1"), 0);
        Check.due("no room for two", Check.test(book, "i=b-2"), 3);
        Check.due("no room for more", Check.test(book, "i=b+1"), 3);
    }

    private static void beyondStays() {
        OffsetBook book = Check.told("a=999999999999999999;b=a+5;b=9;b=a");
        what(book, 0, 3, 0, 2);
        Check.due("retract", book.retract(0), 2);
        what(book, 4, 0, 0, 2);
        Check.due("difference", book.difference(1, 0), 4);
    }

    private static void differences() {
        OffsetBook book = Check.told("a=b+5;c=a+1;d=3");
        Check.due("a b", book.difference(1, 2), 5);
        Check.due("b a", book.difference(2, 1), -5);
        Check.due("c b", book.difference(3, 2), 6);
        Check.due("a a", book.difference(1, 1), 0);
        Check.due("a d", book.difference(1, 4), Check.NOTHING);
        Check.due("ground d", book.difference(0, 4), -3);
        Check.due("a without", book.difference(1, 5), Check.NOTHING);
        Check.due("without a", book.difference(-1, 1), Check.NOTHING);
        Check.due("without", book.difference(Integer.MAX_VALUE, Integer.MIN_VALUE), Check.NOTHING);
        long[] offsets = {0, 0, -5, 1, 3};
        for (int g = 0; g < 5; g++) {
            Check.due("offset(" + g + ")", book.offset(g), offsets[g]);
        }
        Check.due("offset(5)", book.offset(5), Check.NOTHING);
        Check.due("offset(-1)", book.offset(-1), Check.NOTHING);
        Check.due("join", Check.tell(book, "d=c-1"), 4);
        long[] anew = {0, 3, -2, 4, 3};
        for (int g = 0; g < 5; g++) {
            Check.due("offset(" + g + ")", book.offset(g), anew[g]);
        }
    }

    private static void groups() {
        OffsetBook book = Check.told("a=b;c=d;e=f;d=f;g=1");
        int[] least = {0, 1, 1, 3, 3, 3, 3, 0};
        int[] size = {2, 2, 2, 4, 4, 4, 4, 2};
        for (int g = 0; g < 8; g++) {
            Check.due("group(" + g + ", 0)", book.group(g, 0), least[g]);
            Check.due("group(" + g + ", 1)", book.group(g, 1), size[g]);
        }
        Check.due("group(0, 2)", book.group(0, 2), -1);
        Check.due("group(0, -1)", book.group(0, -1), -1);
        Check.due("group(8, 0)", book.group(8, 0), -1);
        Check.due("group(-1, 1)", book.group(-1, 1), -1);
    }

    private static void orders() {
        OffsetBook book = Check.told("a=5;b=a-9;c=b;d=5;e=100;f=g");
        int[] order = {2, 3, 0, 1, 4, 5};
        for (int k = 0; k < 6; k++) {
            Check.due("order(3, " + k + ")", book.order(3, k), order[k]);
        }
        Check.due("order(3, 6)", book.order(3, 6), -2);
        Check.due("order(3, MAX)", book.order(3, Integer.MAX_VALUE), -2);
        Check.due("order(3, -1)", book.order(3, -1), -1);
        Check.due("order(8, 0)", book.order(8, 0), -1);
        Check.due("order(-1, 0)", book.order(-1, 0), -1);
        Check.due("order(6, 1)", book.order(6, 1), 7);
        Check.due("order(7, 0)", book.order(7, 0), 6);
        Check.due("span(4)", book.span(4), 104);
        Check.due("span(6)", book.span(6), 0);
        Check.due("span(8)", book.span(8), Check.NOTHING);
        Check.due("span(-1)", book.span(-1), Check.NOTHING);
        OffsetBook far = Check.told("a=999999999999999999;b=a+1");
        Check.due("span", far.span(0), MOST);
    }

    /** SPAN, ORDER and what is BEYOND are of the GROUPS that are asked for, and no others. */
    private static void everyGroupByItself() {
        OffsetBook book = Check.told("a=b+5;c=d+999999999999999999;e=f-3;g=h;i=j-999999999999999999;k=1");
        long[] spans = {1, 5, 5, MOST - 1, MOST - 1, 3, 3, 0, 0, MOST - 1, MOST - 1, 1};
        int[] lowest = {0, 2, 2, 4, 4, 5, 5, 7, 7, 9, 9, 0};
        for (int g = 0; g < spans.length; g++) {
            Check.due("span(" + g + ")", book.span(g), spans[g]);
            Check.due("order(" + g + ", 0)", book.order(g, 0), lowest[g]);
            Check.due("order(" + g + ", 2)", book.order(g, 2), -2);
        }
        Check.due("joins, as others are far", Check.test(book, "a=e+7"), 0);
        Check.due("joins, as others are far", Check.test(book, "f=k-7"), 0);
        Check.due("just as far", Check.test(book, "e=d-1"), 0);
        Check.due("one farther", Check.test(book, "e=d-2"), 3);
        Check.due("just as far", Check.test(book, "f=c+1"), 0);
        Check.due("one farther", Check.test(book, "f=c+2"), 3);
    }

    private static void mean(String text, double due) {
        OffsetBook book = Check.told(text);
        Check.due("mean after " + text, book.mean(0), Double.doubleToLongBits(due));
    }

    private static void means() {
        mean("a=0", 0.0);
        mean("a=1", 0.5);
        mean("a=2", 1.0);
        mean("a=-1;b=0", -1.0 / 3);
        mean("a=-5;b=5", 0.0);
        mean("a=7;b=9;c=-400", (7.0 + 9.0 - 400.0) / 4);
        mean("a=999999999999999999", (double) 999999999999999999L / 2);
        mean("a=-999999999999999999", (double) -999999999999999999L / 2);
        mean("a=9007199254740993", (double) 9007199254740993L / 2);
        mean("a=9007199254740992;b=1;c=1", (9007199254740992.0 + 1.0 + 1.0) / 4);
        mean("a=1;b=1;c=9007199254740992", (1.0 + 1.0 + 9007199254740992.0) / 4);
        mean("a=1;b=9007199254740993", (1.0 + 9007199254740992.0) / 3);
        mean("a=9007199254740993;b=-9007199254740992;c=9007199254740995", 9007199254740996.0 / 4);
        mean("a=999999999999999999;b=999999999999999998;c=5;d=999999999999999999",
            (1e18 + 1e18 + 5.0 + 1e18) / 5);
        OffsetBook book = Check.told("a=b+5;c=b+6");
        Check.due("mean(2)", book.mean(2), Double.doubleToLongBits((0.0 - 5.0 + 1.0) / 3));
        Check.due("mean(4)", book.mean(4), Check.NOTHING);
        Check.due("mean(-1)", book.mean(-1), Check.NOTHING);
        smallMean();
    }

    private static void powersOfTwo() {
        for (int n = 0; n < 60; n++) {
            for (long more = -1; more <= 1; more++) {
                long value = Math.min((1L << n) + more, MOST - 1);
                mean("a=" + value, (double) value / 2);
                mean("a=-" + value, -(double) value / 2 + 0.0);
            }
        }
    }

    private static void smallMean() {
        OffsetBook book = new OffsetBook();
        for (int n = 0; n < 40; n++) {
            Check.tell(book, "" + (char) ('a' + n / 26) + (char) ('a' + n % 26) + (n == 39 ? "=1" : "=0"));
        }
        Check.due("1/41", book.mean(0), Double.doubleToLongBits(1.0 / 41));
        Check.due("order(40, 40)", book.order(40, 40), 40);
        Check.due("order(40, 41)", book.order(40, 41), -2);
        Check.due("order(41, 0)", book.order(41, 0), -1);
        Check.due("group(40, 1)", book.group(40, 1), 41);
        Check.due("twos(0)", book.twos(0), 780);
        Check.due("twos(1)", book.twos(1), 40);
        Check.due("twos known", book.count(8), 820);
        Check.due("HANG", book.count(9), 40);
        Check.due("RELY", book.statement(39, 4), 40);
    }

    private static void twos() {
        OffsetBook book = Check.told("a=5;b=0;c=-5;d=e+5;f=g+999999999999999999;h=f+1");
        Check.due("twos(0)", book.twos(0), 1);
        Check.due("twos(5)", book.twos(5), 5);
        Check.due("twos(10)", book.twos(10), 1);
        Check.due("twos(1)", book.twos(1), 1);
        Check.due("twos(7)", book.twos(7), 0);
        Check.due("twos(MOST)", book.twos(MOST), 1);
        Check.due("twos(MAX)", book.twos(Long.MAX_VALUE), 0);
        Check.due("twos(-5)", book.twos(-5), -1);
        Check.due("twos(-1)", book.twos(-1), -1);
        Check.due("twos(MIN)", book.twos(Long.MIN_VALUE), -1);
    }

    private static void counts() {
        OffsetBook book = Check.told("a=5;b=a+1;b=6;b=7", "c=d;c=d+1;e=b+999999999999999995", "d=c");
        Check.due("retract", book.retract(7), 4);
        Check.put(book, "abc");
        int[] due = {6, 8, 3, 1, 2, 1, 1, 3, 4, 1, 4, 3};
        for (int what = 0; what < due.length; what++) {
            Check.due("count(" + what + ")", book.count(what), due[what]);
        }
        Check.due("count(12)", book.count(12), -1);
        Check.due("count(-1)", book.count(-1), -1);
        Check.due("count(MIN)", book.count(Integer.MIN_VALUE), -1);
        Check.due("count(MAX)", book.count(Integer.MAX_VALUE), -1);
    }

    private static void countsOfAllThatCanBe() {
        OffsetBook book = Check.withNames(40);
        String[] more = {"aa=1", "aa=2", "ab=aa", "ab=aa+1"};
        for (int n = 0; n < 80; n += 8) {
            Check.tell(book, String.join(";", more) + ";" + String.join(";", more));
        }
        int[] due = {41, 120, 40, 40, 40, 0, 0, 1, 820, 38, 14, 0};
        for (int what = 0; what < due.length; what++) {
            Check.due("count(" + what + ")", book.count(what), due[what]);
        }
        for (int s = 80; s < 120; s++) {
            book.retract(s);
        }
        int[] then = {41, 120, 40, 20, 20, 0, 40, 1, 820, 38, 20, 0};
        for (int what = 0; what < then.length; what++) {
            Check.due("count(" + what + ")", book.count(what), then[what]);
        }
        for (int s = 0; s < 40; s++) {
            book.retract(s);
        }
        int[] last = {41, 120, 2, 18, 20, 0, 80, 39, 3, 0, 20, 0};
        for (int what = 0; what < last.length; what++) {
            Check.due("count(" + what + ")", book.count(what), last[what]);
        }
    }
}
