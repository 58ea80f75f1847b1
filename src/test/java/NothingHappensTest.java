import java.util.function.Supplier;
import java.util.function.ToLongFunction;

/**
 * Every "and nothing happens", "nothing else happens", "and none comes", "which is empty then":
 * after such a call all is as it was, or as it is with an empty TAPE.
 */
public final class NothingHappensTest {
    private static final int MIN = Integer.MIN_VALUE;
    private static final int MAX = Integer.MAX_VALUE;

    public static void main(String[] args) {
        feedWithoutRoom();
        endWithoutSoMany();
        tellWithAFault();
        tellWithAFaultWhenAllIsFull();
        testWhatItWouldBe();
        testWithAFault();
        gaugeOfAName();
        tellEmptiesTheTape();
        retractInVain();
        restoreInVain();
        undoInVain();
        pinOfTheOtherSort();
        pinInVain();
        pinFirstInVain();
        imageInVain();
        backInVain();
        questions();
        Check.finish("NothingHappensTest");
    }

    /** One that has STATEMENTS of all kinds, ACTS, both IMAGES, a PIN of each sort, a TAPE. */
    static OffsetBook crowded() {
        OffsetBook book = new OffsetBook();
        Check.tell(book, "a=b+5;b=c-2;a=c+3;c=a;b=7");
        book.image(0);
        Check.tell(book, "d=e+4;e=f;d=f+5;g=999999999999999999;h=g+9");
        book.retract(2);
        book.pin(0, 1, 0);
        book.pin(1, 2, 4);
        book.image(1);
        Check.tell(book, "i=d;f=i-4");
        book.retract(11);
        book.retract(1);
        book.restore(2);
        Check.put(book, "j=i-3");
        return book;
    }

    private static final int RETRACTED = 11;
    private static final int STATEMENTS = 12;

    /** One that has all that can be kept: 120 STATEMENTS, 40 NAMES, 300 bytes, 20 ACTS. */
    static OffsetBook full() {
        OffsetBook book = Check.withNames(40);
        for (int n = 0; n < 15; n++) {
            Check.tell(book, "aa=ab;ac=ad+1;ae=ad;af=1;ag=ab");
        }
        Check.tell(book, "bn=aa;bm=ab;bn=bm;bl=bn;bn=2");
        book.image(1);
        book.pin(0, 0, 119);
        book.retract(118);
        Check.put(book, "aa=ab+" + " ".repeat(293) + "1");
        return book;
    }

    private static OffsetBook crowdedWithout(int bytes) {
        OffsetBook book = crowded();
        book.end(bytes);
        return book;
    }

    private static Supplier<OffsetBook> crowdedWith(String tape) {
        return () -> {
            OffsetBook book = crowdedWithout(0);
            Check.put(book, tape);
            return book;
        };
    }

    private static Supplier<OffsetBook> fullWith(String tape) {
        return () -> {
            OffsetBook book = full();
            book.end(0);
            Check.put(book, tape);
            return book;
        };
    }

    private static void nothing(String what, ToLongFunction<OffsetBook> call, long due) {
        Twins.nothingHappens(what, NothingHappensTest::crowded, call, due);
        Twins.nothingHappens(what + " when full", NothingHappensTest::full, call, due);
    }

    private static void onlyTheTape(String what, Supplier<OffsetBook> making,
        ToLongFunction<OffsetBook> call, long due) {
        Twins.happens(what, making, call, due, book -> book.end(0));
        OffsetBook book = making.get();
        call.applyAsLong(book);
        Check.due(what + ": the TAPE is empty then", book.count(11), 0);
    }

    /** Promise 2: "NONE, and none comes, if it would have more than 300". */
    private static void feedWithoutRoom() {
        for (int length : new int[] {281, 290, 300}) {
            Twins.nothingHappens("feed behind " + length, crowdedWith("j=i-3" + " ".repeat(length - 5)),
                book -> book.feed(0x6162633d, 1, 2, 3, -1), -1);
        }
        Twins.nothingHappens("feed when full", NothingHappensTest::full,
            book -> book.feed(0x20202020, 0x20202020, 0x20202020, 0x20202020, 0x20202020), -1);
    }

    /** Promise 3: "NONE, and nothing happens, if it has not so many, or n is below 0". */
    private static void endWithoutSoMany() {
        for (int n : new int[] {MIN, -2, -1, 6, 7, 20, 299, 300, 301, MAX}) {
            Twins.nothingHappens("end(" + n + ")", NothingHappensTest::crowded, book -> book.end(n), -1);
        }
        for (int n : new int[] {MIN, -1, 301, MAX}) {
            Twins.nothingHappens("end(" + n + ") of 300", NothingHappensTest::full, book -> book.end(n), -1);
        }
        Twins.nothingHappens("end with all of them", NothingHappensTest::crowded, book -> book.end(5), 5);
        Twins.nothingHappens("end with all of them", NothingHappensTest::full, book -> book.end(300), 300);
        Twins.nothingHappens("end(1) of none", OffsetBook::new, book -> book.end(1), -1);
    }

    /** Promise 4: "-2 - its FAULT, and but for the TAPE nothing happens". */
    private static void tellWithAFault() {
        String[] texts = {"", " ", "j", "j=", "j=k;", "j=k;a=b?", "j=k;a=b+5;l=m;a=b+6;d=?", "a=7;;",
            "a=b+5;abcdefg=1", "j=1;k=1234567890123456789", "j=1;k=2;j=j", "a=b;a=a+1"};
        int[] due = {Check.fault(0, 1), Check.fault(1, 1), Check.fault(1, 1), Check.fault(2, 1),
            Check.fault(4, 1), Check.fault(7, 1), Check.fault(22, 1), Check.fault(4, 1),
            Check.fault(6, 2), Check.fault(6, 2), Check.fault(10, 4), Check.fault(6, 4)};
        for (int n = 0; n < texts.length; n++) {
            onlyTheTape("tell " + texts[n], crowdedWith(texts[n]), OffsetBook::tell, due[n]);
        }
        onlyTheTape("tell 13", crowdedWith(Check.again("j=k+1", 13)), OffsetBook::tell, Check.fault(72, 5));
        onlyTheTape("tell 24 NAMES", crowdedWith(newNames()), OffsetBook::tell, Check.fault(167, 1));
        onlyTheTape("tell nothing", OffsetBook::new, OffsetBook::tell, Check.fault(0, 1));
    }

    /** As many new NAMES as a TEXT can tell, and then a byte that can't stand there. */
    private static String newNames() {
        StringBuilder text = new StringBuilder();
        for (int n = 0; n < 12; n++) {
            text.append(n == 0 ? "" : ";").append(wide(2 * n)).append("=").append(wide(2 * n + 1));
        }
        return text + "?";
    }

    private static String wide(int n) {
        return "zz" + (char) ('a' + n) + "zz" + (char) ('a' + n);
    }

    private static void tellWithAFaultWhenAllIsFull() {
        String[] texts = {"aa=ab", "aa=1;aa=1", " zz=1", "?", ""};
        int[] due = {Check.fault(0, 5), Check.fault(0, 5), Check.fault(1, 5), Check.fault(0, 1),
            Check.fault(0, 1)};
        for (int n = 0; n < texts.length; n++) {
            onlyTheTape("tell " + texts[n] + " when full", fullWith(texts[n]), OffsetBook::tell, due[n]);
            onlyTheTape("test " + texts[n] + " when full", fullWith(texts[n]), OffsetBook::test, due[n]);
        }
        Supplier<OffsetBook> names = () -> {
            OffsetBook book = Check.withNames(40);
            Check.put(book, "aa=2;ab=1;zz=1");
            return book;
        };
        onlyTheTape("tell a 41st NAME", names, OffsetBook::tell, Check.fault(10, 3));
        Supplier<OffsetBook> last = () -> {
            OffsetBook book = Check.withNames(39);
            Check.put(book, "zy=2;zz=1");
            return book;
        };
        onlyTheTape("tell a 40th, a 41st", last, OffsetBook::tell, Check.fault(5, 3));
        Supplier<OffsetBook> statements = () -> {
            OffsetBook book = Check.withStatements(119);
            Check.put(book, "b=1;c=b");
            return book;
        };
        onlyTheTape("tell a 120th, a 121st", statements, OffsetBook::tell, Check.fault(4, 5));
    }

    /** Promise 5: "The TAPE, which is empty then", "what it would be", "Nothing else happens". */
    private static void testWhatItWouldBe() {
        String[] texts = {"a=d", "k=l+1", "c=a+9", "b=7", "b=8", "a=c+4", "h=g+9", "k=a-999999999999999999"};
        int[] due = {0, 0, 2, 1, 2, 2, 3, 3};
        for (int n = 0; n < texts.length; n++) {
            onlyTheTape("test " + texts[n], crowdedWith(texts[n]), OffsetBook::test, due[n]);
        }
        onlyTheTape("test in a new one", () -> {
            OffsetBook book = new OffsetBook();
            Check.put(book, "a=b");
            return book;
        }, OffsetBook::test, 0);
    }

    /** Promise 5: "-2 - its FAULT as of a TEXT of one (behind it nothing can stand)". */
    private static void testWithAFault() {
        String[] texts = {"", "a=d;", "k=l;b=7", "k=l+1 2", "k=l k", "abcdefg=1", "k=k", "k=", "k=l;?"};
        int[] due = {Check.fault(0, 1), Check.fault(3, 1), Check.fault(3, 1), Check.fault(6, 1),
            Check.fault(4, 1), Check.fault(0, 2), Check.fault(2, 4), Check.fault(2, 1), Check.fault(3, 1)};
        for (int n = 0; n < texts.length; n++) {
            onlyTheTape("test " + texts[n], crowdedWith(texts[n]), OffsetBook::test, due[n]);
        }
    }

    /** Promise 11: "the TAPE, which is empty then, tells it". */
    private static void gaugeOfAName() {
        String[] texts = {"a", "i", "", "j", "a ", " a", "aa", "A", "a=b", "abcdefg"};
        int[] due = {1, 9, -1, -1, -1, -1, -1, -1, -1, -1};
        for (int n = 0; n < texts.length; n++) {
            onlyTheTape("gauge " + texts[n], crowdedWith(texts[n]), OffsetBook::gauge, due[n]);
        }
        onlyTheTape("gauge of 300 bytes", NothingHappensTest::full, OffsetBook::gauge, -1);
        onlyTheTape("gauge of the last", fullWith("bn"), OffsetBook::gauge, 40);
    }

    /** Promise 4: "The TAPE, which is empty then": also of a TEXT that is told. */
    private static void tellEmptiesTheTape() {
        OffsetBook book = crowded();
        Check.due("tell", book.tell(), STATEMENTS + 1);
        Check.due("the TAPE is empty then", book.count(11), 0);
        Check.due("and tells nothing more", book.tell(), Check.fault(0, 1));
        Check.due("what comes is the first", book.feed(0x6b3d3720, 0x20202020, 0x20202020, 0x20202020,
            0x20202020), 20);
        Check.due("tell", book.tell(), STATEMENTS + 2);
    }

    /** Promise 6: "NONE, and nothing happens, without it, or if it is RETRACTED". */
    private static void retractInVain() {
        for (int number : new int[] {MIN, -2, -1, STATEMENTS, STATEMENTS + 1, 119, 120, MAX, RETRACTED, 1}) {
            Twins.nothingHappens("retract(" + number + ")", NothingHappensTest::crowded,
                book -> book.retract(number), -1);
        }
        for (int number : new int[] {MIN, -1, 118, 120, 121, MAX}) {
            Twins.nothingHappens("retract(" + number + ")", NothingHappensTest::full,
                book -> book.retract(number), -1);
        }
    }

    /** Promise 7: "NONE, and nothing happens, if it is not RETRACTED". */
    private static void restoreInVain() {
        for (int number = 0; number < STATEMENTS; number++) {
            int s = number;
            if (s != RETRACTED && s != 1) {
                Twins.nothingHappens("restore(" + s + ")", NothingHappensTest::crowded,
                    book -> book.restore(s), -1);
            }
        }
        for (int number : new int[] {MIN, -1, STATEMENTS, STATEMENTS + 1, 119, 120, MAX}) {
            Twins.nothingHappens("restore(" + number + ")", NothingHappensTest::crowded,
                book -> book.restore(number), -1);
        }
        for (int number : new int[] {MIN, -1, 0, 117, 119, 120, MAX}) {
            Twins.nothingHappens("restore(" + number + ")", NothingHappensTest::full,
                book -> book.restore(number), -1);
        }
    }

    /** Promise 8: "NONE, and nothing happens, if none can". */
    private static void undoInVain() {
        Twins.nothingHappens("undo in a new one", OffsetBook::new, OffsetBook::undo, -1);
        for (int image = 0; image <= 1; image++) {
            int k = image;
            Twins.nothingHappens("undo behind back(" + k + ")", () -> {
                OffsetBook book = crowded();
                book.back(k);
                return book;
            }, OffsetBook::undo, -1);
        }
        Twins.nothingHappens("undo behind the last", () -> {
            OffsetBook book = full();
            for (int n = 0; n < 20; n++) {
                book.undo();
            }
            return book;
        }, OffsetBook::undo, -1);
    }

    /** Promise 23: "-2, and nothing happens: the PIN is of the other sort". */
    private static void pinOfTheOtherSort() {
        for (int room = 0; room <= 3; room++) {
            int r = room;
            for (int value : new int[] {4, 8}) {
                Twins.nothingHappens("pin(0, " + r + ", " + value + ")", NothingHappensTest::crowded,
                    book -> book.pin(0, r, value), -2);
            }
            for (int names : new int[] {0, 1, 2, 3, 9, 11}) {
                Twins.nothingHappens("pin(1, " + r + ", " + names + ")", NothingHappensTest::crowded,
                    book -> book.pin(1, r, names), -2);
            }
        }
    }

    /** Promise 23: "NONE, and nothing happens, without these". */
    private static void pinInVain() {
        for (int number : new int[] {MIN, -2, -1, 2, 3, MAX}) {
            nothing("pin(" + number + ", 0, 0)", book -> book.pin(number, 0, 0), -1);
        }
        for (int number : new int[] {MIN, -2, -1, 4, 5, MAX}) {
            nothing("pin(0, " + number + ", 0)", book -> book.pin(0, number, 0), -1);
            nothing("pin(1, " + number + ", 4)", book -> book.pin(1, number, 4), -1);
        }
        for (int number : new int[] {MIN, -2, -1, 120, 121, MAX}) {
            nothing("pin(0, 1, " + number + ")", book -> book.pin(0, 1, number), -1);
        }
        Twins.nothingHappens("pin(0, 1, behind)", NothingHappensTest::crowded,
            book -> book.pin(0, 1, STATEMENTS), -1);
    }

    /** What did not come to a PIN is not the first one that came: it has no sort yet. */
    private static void pinFirstInVain() {
        Supplier<OffsetBook> making = () -> Check.told("a=5;b=a");
        int[][] calls = {{0, 4, 0}, {0, 4, 1}, {0, -1, 0}, {0, 0, 2}, {0, 0, -1}, {2, 0, 0}, {-1, 0, 1}};
        for (int[] call : calls) {
            Twins.nothingHappens("pin", making, book -> book.pin(call[0], call[1], call[2]), -1);
            for (int s = 0; s <= 1; s++) {
                OffsetBook book = making.get();
                Check.due("pin in vain", book.pin(call[0], call[1], call[2]), -1);
                Check.due("the first one that comes", book.pin(0, 0, s), s);
                Check.due("one of the other sort", book.pin(0, 1, 1 - s), -2);
                Check.due("to the other PIN", book.pin(1, 0, 1 - s), 1 - s);
            }
        }
    }

    /** Promise 25: "NONE without that number". */
    private static void imageInVain() {
        for (int number : new int[] {MIN, -2, -1, 2, 3, MAX}) {
            nothing("image(" + number + ")", book -> book.image(number), -1);
        }
    }

    /** Promise 26: "NONE, and nothing happens, if it was never made, or without that number". */
    private static void backInVain() {
        for (int number : new int[] {MIN, -2, -1, 2, 3, MAX}) {
            nothing("back(" + number + ")", book -> book.back(number), -1);
        }
        Twins.nothingHappens("back(0), never made", NothingHappensTest::full, book -> book.back(0), -1);
        Supplier<OffsetBook> first = () -> {
            OffsetBook book = Check.told("a=5", "b=a");
            book.image(0);
            book.retract(0);
            Check.put(book, "c=1");
            return book;
        };
        Twins.nothingHappens("back(1), never made", first, book -> book.back(1), -1);
        Twins.nothingHappens("back in a new one", OffsetBook::new, book -> book.back(0), -1);
    }

    /** Questions change nothing: all that can be asked is asked once more. */
    private static void questions() {
        nothing("questions", NothingHappensTest::askAll, 0);
        Twins.nothingHappens("questions", OffsetBook::new, NothingHappensTest::askAll, 0);
    }

    private static long askAll(OffsetBook book) {
        for (int n : new int[] {-1, 0, 4, MAX}) {
            for (int k : new int[] {MIN, -1, 0, 1}) {
                book.statement(n, k);
                book.letter(n, k);
                book.group(n, k);
                book.order(n, k);
                book.cut(n, k);
                book.pinned(n, k);
                book.chain(n, k, -1);
                book.difference(n, k);
            }
            book.amount(n);
            book.offset(n);
            book.span(n);
            book.mean(n);
            book.twos(n);
            book.blame(n);
            book.count(n);
        }
        return 0;
    }
}
