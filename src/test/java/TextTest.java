/** The TAPE, TEXTS and their FAULTS: promises 2 to 5, 11 and 12. */
public final class TextTest {
    public static void main(String[] args) {
        tape();
        bytesLeftOut();
        fullTape();
        texts();
        wrongBytes();
        tooLong();
        namesTooMany();
        sameName();
        statementsTooMany();
        leastOfOnePlace();
        tooManyAheadOfItsName();
        faultChangesNothing();
        loneStatements();
        names();
        Check.finish("TextTest");
    }

    private static void tape() {
        OffsetBook book = new OffsetBook();
        Check.due("end(1) of none", book.end(1), -1);
        Check.due("end(0) of none", book.end(0), 0);
        Check.due("feed", book.feed(0x61626364, 0x65660000, 0, 0, 0), 20);
        Check.due("end(-1)", book.end(-1), -1);
        Check.due("end(21)", book.end(21), -1);
        Check.due("end(MIN)", book.end(Integer.MIN_VALUE), -1);
        Check.due("end(MAX)", book.end(Integer.MAX_VALUE), -1);
        Check.due("bytes", book.count(11), 20);
        Check.due("end(20)", book.end(20), 20);
        Check.due("end(6)", book.end(6), 6);
        Check.due("bytes", book.count(11), 6);
        for (int n = 1; n <= 14; n++) {
            Check.due("feed", book.feed(0, 0, 0, 0, 0), 6 + 20 * n);
        }
        Check.due("feed beyond 300", book.feed(0, 0, 0, 0, 0), -1);
        Check.due("bytes", book.count(11), 286);
        Check.due("end(281)", book.end(281), 281);
        Check.due("feed to 301", book.feed(0, 0, 0, 0, 0), -1);
        Check.due("end(280)", book.end(280), 280);
        Check.due("feed to 300", book.feed(0, 0, 0, 0, 0), 300);
        Check.due("feed to 320", book.feed(0, 0, 0, 0, 0), -1);
        Check.due("the first byte that is wrong", book.tell(), Check.fault(6, 1));
        Check.due("empty then", book.count(11), 0);
        highestFirst();
    }

    private static void bytesLeftOut() {
        String[] texts = {"a=b", "a=12", "a=5 6", "a=bc", "a=b+1", "ab=1", "a=1;b=1", "a=-1"};
        int[] ends = {2, 3, 4, 3, 4, 1, 4, 3};
        int[] due = {Check.fault(2, 1), 1, 1, 1, Check.fault(4, 1), Check.fault(1, 1),
            Check.fault(4, 1), Check.fault(3, 1)};
        for (int n = 0; n < texts.length; n++) {
            OffsetBook book = new OffsetBook();
            Check.put(book, texts[n]);
            Check.due("end", book.end(ends[n]), ends[n]);
            Check.due("tell " + texts[n] + " up to " + ends[n], book.tell(), due[n]);
        }
        OffsetBook book = Check.told("a=12", "a=1");
        Check.put(book, "b=12");
        Check.due("end", book.end(3), 3);
        Check.due("tell", book.tell(), 3);
        Check.due("the digit behind is left out", book.amount(2), 1);
        Check.put(book, "bc");
        Check.due("end", book.end(1), 1);
        Check.due("the letter behind is left out", book.gauge(), 2);
    }

    private static void fullTape() {
        String[] tails = {"=b", "=7", "=", "=b+", "=b ", "", "=b+00007", ";", "=b-", "=-"};
        int[] due = {1, 1, Check.fault(300, 1), Check.fault(300, 1), 1, Check.fault(300, 1), 1,
            Check.fault(299, 1), Check.fault(300, 1), Check.fault(300, 1)};
        for (int n = 0; n < tails.length; n++) {
            OffsetBook book = new OffsetBook();
            String text = " ".repeat(299 - tails[n].length()) + "a" + tails[n];
            Check.due("300 bytes that end with a" + tails[n], Check.tell(book, text), due[n]);
        }
        OffsetBook book = new OffsetBook();
        Check.due("blanks alone", Check.tell(book, " ".repeat(300)), Check.fault(300, 1));
        Check.due("letters alone", Check.tell(book, "a".repeat(300)), Check.fault(0, 2));
        Check.due("no NAME", Check.gauge(book, "a".repeat(300)), -1);
        Check.due("digits", Check.test(book, "a=" + "0".repeat(298)), Check.fault(2, 2));
    }

    private static void highestFirst() {
        OffsetBook book = new OffsetBook();
        book.feed(0x61203d20, 0x31323334, 0x35363738, 0x39303132, 0x33343536);
        Check.due("tell", book.tell(), 1);
        Check.due("all twenty in their order", book.amount(0), 1234567890123456L);
        book.feed(0x61ff0000, 0, 0, 0, 0);
        Check.due("byte 255", book.tell(), Check.fault(1, 1));
        book.feed(0x80000000, 0, 0, 0, 0);
        Check.due("byte 128", book.tell(), Check.fault(0, 1));
    }

    private static void texts() {
        OffsetBook book = new OffsetBook();
        Check.due("tell", Check.tell(book, "  a  =b+ 5 ;c=-  7;d = e;abcdef=999999999999999999"
            + " ; a=b -0005 ; zz = 000000000000000012  "), 6);
        int[] firsts = {1, 3, 4, 6, 1, 7};
        int[] seconds = {2, 0, 5, 0, 2, 0};
        long[] amounts = {5, -7, 0, 999999999999999999L, -5, 12};
        for (int s = 0; s < 6; s++) {
            Check.due("first of " + s, book.statement(s, 1), firsts[s]);
            Check.due("second of " + s, book.statement(s, 2), seconds[s]);
            Check.due("amount of " + s, book.amount(s), amounts[s]);
        }
        Check.due("amount(6)", book.amount(6), Check.NOTHING);
        Check.due("amount(-1)", book.amount(-1), Check.NOTHING);
        Check.due("gauges", book.count(0), 8);
        Check.due("tell more", Check.tell(book, "z=a"), 7);
        Check.due("gauges", book.count(0), 9);
    }

    private static void wrongBytes() {
        String[] texts = {"", "   ", "a", "a ", "a=", "a =  ", "a=b+", "a=b- ", "a=-", "a=5;",
            "a=5; ", "A=5", "aB=5", "a b=5", "a+5", "a==5", "a=+5", "a=--5", "a=b+-5", "a=b++5",
            "a=b+c", "a=b5", "a=5b", "a=5 6", "a=b c", "a=5+5", "a=5;;b=5", ";a=5", "5=a",
            "a=5,b=5", "a=b\t", "\na=5", "a=5\0", "a=b+5-6", "a=b=c", "a=-b", "a=5;-", "a=`",
            "a={", "a=/", "a=:", "a=b*5", "a=b+5 b"};
        int[] places = {0, 3, 1, 2, 2, 5, 4, 5, 3, 4,
            5, 0, 1, 2, 1, 2, 2, 3, 4, 4,
            4, 3, 3, 4, 4, 3, 4, 0, 0,
            3, 3, 0, 3, 5, 3, 3, 4, 2,
            2, 2, 2, 3, 6};
        for (int n = 0; n < texts.length; n++) {
            OffsetBook book = new OffsetBook();
            Check.due("tell " + texts[n], Check.tell(book, texts[n]), Check.fault(places[n], 1));
            Check.due("tape", book.count(11), 0);
            Check.due("undoable", book.count(10), 0);
        }
    }

    private static void tooLong() {
        OffsetBook book = new OffsetBook();
        Check.due("7 letters", Check.tell(book, " abcdefg=5"), Check.fault(1, 2));
        Check.due("7 letters and more", Check.tell(book, "abcdefghijklmnopq"), Check.fault(0, 2));
        Check.due("7 letters behind", Check.tell(book, "a= abcdefg?"), Check.fault(3, 2));
        Check.due("19 digits", Check.tell(book, "a=1000000000000000000"), Check.fault(2, 2));
        Check.due("19 digits, 0 first", Check.tell(book, "a=- 0000000000000000000"),
            Check.fault(4, 2));
        Check.due("19 digits behind", Check.tell(book, "a=b+0000000000000000001x"),
            Check.fault(4, 2));
        Check.due("6 letters, a blank", Check.tell(book, "abcdef g=5"), Check.fault(7, 1));
        Check.due("18 digits, a blank", Check.tell(book, "a=000000000000000001 2"),
            Check.fault(21, 1));
        Check.due("6 letters, 18 digits", Check.tell(book, "abcdef=-999999999999999999"), 1);
        Check.due("amount", book.amount(0), -999999999999999999L);
    }

    private static void namesTooMany() {
        OffsetBook book = Check.withNames(39);
        Check.due("two more", Check.tell(book, "x = aa; y = aa"), Check.fault(8, 3));
        Check.due("two more in one", Check.tell(book, "x = y ?"), Check.fault(4, 3));
        Check.due("none came", book.count(0), 40);
        Check.due("test with two more", Check.test(book, "x=y"), Check.fault(2, 3));
        Check.due("test with one more", Check.test(book, "x=aa"), 0);
        Check.due("one more", Check.tell(book, "x = aa + 1; x = ab + 1"), 41);
        Check.due("gauges", book.count(0), 41);
        Check.due("one more", Check.tell(book, "aa = 1; y = 1"), Check.fault(8, 3));
        Check.due("one more too long", Check.tell(book, "aa = 1; yyyyyyy = 1"), Check.fault(8, 2));
        Check.due("test of a 41st", Check.test(book, " y = 1"), Check.fault(1, 3));
        Check.due("those that are there", Check.tell(book, "bn=x"), Check.fault(0, 3));
        Check.due("those that are there", Check.tell(book, "bm=x"), 42);
        Check.due("undo", book.undo(), 5);
        Check.due("undo", book.undo(), 4);
        Check.due("gauges", book.count(0), 40);
        Check.due("a 40th again", Check.tell(book, "bn=aa"), 40);
        Check.due("bn", Check.gauge(book, "bn"), 40);
        Check.due("x", Check.gauge(book, "x"), -1);
    }

    private static void sameName() {
        OffsetBook book = new OffsetBook();
        Check.due("a = a", Check.tell(book, "a = a"), Check.fault(4, 4));
        Check.due("a = a?", Check.tell(book, "a =a?"), Check.fault(3, 4));
        Check.due("b=1;a=a+5", Check.tell(book, "b=1;a=a+5"), Check.fault(6, 4));
        Check.due("aa=a", Check.tell(book, "aa=a;a=aa;ab=a"), 3);
        Check.due("test", Check.test(book, "aa=aa"), Check.fault(3, 4));
        Check.due("test of a new one", Check.test(book, "q=q"), Check.fault(2, 4));
    }

    private static void statementsTooMany() {
        String twelve = "a=1;a=1;a=1;a=1;a=1;a=1;a=1;a=1;a=1;a=1;a=1;a=1";
        OffsetBook book = new OffsetBook();
        Check.due("13", Check.tell(book, twelve + "; a=1"), Check.fault(49, 5));
        Check.due("13th only begun", Check.tell(book, twelve + ";a"), Check.fault(48, 5));
        Check.due("13th of none", Check.tell(book, twelve + ";"), Check.fault(48, 1));
        Check.due("13th of a digit", Check.tell(book, twelve + "; 5"), Check.fault(49, 1));
        Check.due("14", Check.tell(book, twelve + ";a=1;a=1"), Check.fault(48, 5));
        for (int n = 1; n <= 9; n++) {
            Check.due("12", Check.tell(book, twelve), 12 * n);
        }
        Check.due("8 more", Check.tell(book, "a=1;a=1;a=1;a=1;a=1;a=1;a=1;a=1"), 116);
        Check.due("5 more", Check.tell(book, "a=1;a=1;a=1;a=1;a=1"), Check.fault(16, 5));
        Check.due("4 more", Check.tell(book, "a=1;a=1;a=1;a=2"), 120);
        Check.due("one more", Check.tell(book, "  a=1"), Check.fault(2, 5));
        Check.due("test of one more", Check.test(book, " a=1"), Check.fault(1, 5));
        Check.due("test of a wrong byte", Check.test(book, " 1"), Check.fault(1, 1));
        Check.due("retracted ones are kept, too", book.retract(3), 118);
        Check.due("one more", Check.tell(book, "a=1"), Check.fault(0, 5));
        Check.due("the last", book.statement(119, 0), 2);
        Check.due("behind it", book.statement(120, 0), -1);
        Check.due("undo", book.undo(), 11);
        Check.due("undo", book.undo(), 10);
        Check.due("test", Check.test(book, "a=1"), 1);
    }

    private static void leastOfOnePlace() {
        OffsetBook book = Check.withNames(40);
        Check.due("2 of 2 and 3", Check.tell(book, "zzzzzzz=1"), Check.fault(0, 2));
        Check.due("2 of 2 and 3 behind =", Check.tell(book, "aa=zzzzzzz"), Check.fault(3, 2));
        Check.due("2 of 2 and 3 in test", Check.test(book, "zzzzzzz=1"), Check.fault(0, 2));
    }

    /** One too many is judged as a NAME begins it, ahead of that NAME. */
    private static void tooManyAheadOfItsName() {
        String twelve = "aa=1;aa=1;aa=1;aa=1;aa=1;aa=1;aa=1;aa=1;aa=1;aa=1;aa=1;aa=1;";
        String[] thirteenths = {"ab=1", "abcdefg=1", "abcdefghijk", "z=1", "z", "zzzzzzz?", "a?"};
        OffsetBook book = Check.withNames(40);
        for (String more : thirteenths) {
            Check.due("13th " + more, Check.tell(book, twelve + more), Check.fault(60, 5));
            Check.due("13th, blanks ahead " + more, Check.tell(book, twelve + "  " + more),
                Check.fault(62, 5));
        }
        Check.due("the 12th too long", Check.tell(book, twelve.substring(5) + "abcdefg=1"),
            Check.fault(55, 2));
        Check.due("the 12th one NAME too many", Check.tell(book, twelve.substring(5) + "z=1"),
            Check.fault(55, 3));
        Check.due("no NAME begins a 13th", Check.tell(book, twelve + "?abcdefg"),
            Check.fault(60, 1));
        Check.due("nor a digit", Check.tell(book, twelve + "1234567890123456789"),
            Check.fault(60, 1));
        for (int n = 1; n <= 6; n++) {
            Check.due("12 more", Check.tell(book, twelve.substring(0, 59)), 40 + 12 * n);
        }
        Check.due("7 more", Check.tell(book, twelve.substring(0, 34)), 119);
        Check.due("the 120th too long", Check.test(book, "abcdefg"), Check.fault(0, 2));
        Check.due("the 120th one NAME too many", Check.test(book, "z"), Check.fault(0, 3));
        for (String more : thirteenths) {
            Check.due("121st " + more, Check.tell(book, "aa=1;" + more), Check.fault(5, 5));
        }
        Check.due("the 120th", Check.tell(book, "aa=1"), 120);
        for (String more : thirteenths) {
            Check.due("121st " + more, Check.tell(book, more), Check.fault(0, 5));
            Check.due("test of a 121st " + more, Check.test(book, " " + more), Check.fault(1, 5));
        }
        Check.due("test of no NAME", Check.test(book, "?"), Check.fault(0, 1));
        Check.due("test of nothing", Check.test(book, ""), Check.fault(0, 1));
        Check.due("none came", book.count(0), 41);
    }

    private static void faultChangesNothing() {
        OffsetBook book = Check.told("a=5;b=a+1");
        Check.due("tell", Check.tell(book, "c=1;d=c;a=6;e=?"), Check.fault(14, 1));
        Check.due("gauges", book.count(0), 3);
        Check.due("statements", book.count(1), 2);
        Check.due("undoable", book.count(10), 1);
        Check.due("c", Check.gauge(book, "c"), -1);
        Check.due("difference", book.difference(2, 0), 6);
        Check.due("statement(2, 0)", book.statement(2, 0), -1);
        Check.due("the next new name", Check.tell(book, "z=1"), 3);
        Check.due("z", Check.gauge(book, "z"), 3);
    }

    private static void loneStatements() {
        OffsetBook book = Check.told("a=5;b=a+1");
        Check.due("known", Check.test(book, "b = 6"), 1);
        Check.due("tape", book.count(11), 0);
        Check.due("refused", Check.test(book, "b = 7 "), 2);
        Check.due("joins", Check.test(book, "c = b-3"), 0);
        Check.due("joins two new ones", Check.test(book, "c = d"), 0);
        Check.due("beyond", Check.test(book, "c = b + 999999999999999995"), 3);
        Check.due("just not beyond", Check.test(book, "c = b + 999999999999999994"), 0);
        Check.due("; behind it", Check.test(book, "b = 6;"), Check.fault(5, 1));
        Check.due("; behind a NAME", Check.test(book, "b = a ; b = 6"), Check.fault(6, 1));
        Check.due("ends", Check.test(book, "b ="), Check.fault(3, 1));
        Check.due("too long", Check.test(book, "b = abcdefg"), Check.fault(4, 2));
        Check.due("nothing came", book.count(0), 3);
        Check.due("nothing came", book.count(1), 2);
        Check.due("no ACT", book.count(10), 1);
        Check.due("c", Check.gauge(book, "c"), -1);
        Check.due("as ever", book.difference(2, 0), 6);
    }

    private static void names() {
        OffsetBook book = Check.told("abcdef=az;z=1;az=b");
        Check.due("abcdef", Check.gauge(book, "abcdef"), 1);
        Check.due("tape", book.count(11), 0);
        Check.due("az", Check.gauge(book, "az"), 2);
        Check.due("z", Check.gauge(book, "z"), 3);
        Check.due("b", Check.gauge(book, "b"), 4);
        String[] none = {"", "a", "abcde", "abcdefg", " z", "z ", "z;", "Z", "az=", "azz"};
        for (String name : none) {
            Check.due("gauge of " + name, Check.gauge(book, name), -1);
            Check.due("tape", book.count(11), 0);
        }
        Check.due("none came", book.count(0), 5);
        for (int k = 0; k < 6; k++) {
            Check.due("letter " + k, book.letter(1, k), k + 1);
        }
        Check.due("letter(1, NONE)", book.letter(1, -1), 6);
        Check.due("letter(1, 6)", book.letter(1, 6), -1);
        Check.due("letter(1, -2)", book.letter(1, -2), -1);
        Check.due("letter(1, MIN)", book.letter(1, Integer.MIN_VALUE), -1);
        Check.due("letter(1, MAX)", book.letter(1, Integer.MAX_VALUE), -1);
        Check.due("letter(2, NONE)", book.letter(2, -1), 2);
        Check.due("letter(2, 1)", book.letter(2, 1), 26);
        Check.due("letter(2, 2)", book.letter(2, 2), -1);
        Check.due("of the GROUND", book.letter(0, -1), 0);
        Check.due("of the GROUND", book.letter(0, 0), -1);
        Check.due("without it", book.letter(5, -1), -1);
        Check.due("without it", book.letter(-1, -1), -1);
        Check.due("without it", book.letter(Integer.MAX_VALUE, 0), -1);
    }
}
