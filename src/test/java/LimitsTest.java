/**
 * Terms: how long, how many, how far, the last on this side and the first beyond it; FAULTS 2
 * to 5, "more than 1000000000000000000", "The last 20", and the 512th call.
 */
public final class LimitsTest {
    private static final long MOST = 1000000000000000000L;
    private static final int[] KEPT = {107, 108, 109, 113, 118, 119, 120};

    public static void main(String[] args) {
        lettersOfAName();
        digitsOfANumber();
        statementsOfAText();
        statementsKept();
        retractedOnesAreKept();
        undoneOnesAreNotKept();
        namesThereAre();
        namesOfATextWithAFault();
        undoneNamesAreNotThere();
        sameNameOnBothSides();
        firstPlaceThatIsWrong();
        leastOfOnePlace();
        judgedWhenRead();
        oneTooManyAsItBegins();
        asFarAsCanBe();
        farEndsOfGroups();
        beyondInEitherOrder();
        neverBeyondInOneGroup();
        lastTwentyActs();
        ringOfActs();
        the512thCall();
        Check.finish("LimitsTest");
    }

    private static int telling(String text) {
        return Check.tell(new OffsetBook(), text);
    }

    private static int testing(String text) {
        return Check.test(new OffsetBook(), text);
    }

    /** "NAME: small letters, as far as they go on, 6 at most"; 2 "where it begins". */
    private static void lettersOfAName() {
        for (int letters : new int[] {1, 2, 5, 6, 7, 8, 9, 100, 290}) {
            String name = "z".repeat(letters);
            boolean fits = letters <= 6;
            Check.due(letters + " letters", telling(name + "=1"), fits ? 1 : Check.fault(0, 2));
            Check.due(letters + " letters", telling("b = " + name), fits ? 1 : Check.fault(4, 2));
            Check.due(letters + " letters", telling("b=1;" + name + "=b"), fits ? 2 : Check.fault(4, 2));
            Check.due(letters + " letters", telling("b= " + name + " + 1"), fits ? 1 : Check.fault(3, 2));
            Check.due(letters + " letters", testing(" " + name + "=1"), fits ? 0 : Check.fault(1, 2));
            Check.due(letters + " letters", testing("b=" + name), fits ? 0 : Check.fault(2, 2));
        }
        OffsetBook book = Check.told("abcdef=1;abcdeg=2;abcde=3");
        Check.due("6 letters are told apart", book.count(0), 4);
        Check.due("by the last one", Check.gauge(book, "abcdeg"), 2);
        Check.due("by how many", Check.gauge(book, "abcde"), 3);
    }

    /** "NUMBER: digits, as far as they go on, 18 at most"; 2 "where it begins". */
    private static void digitsOfANumber() {
        for (int digits : new int[] {1, 2, 17, 18, 19, 20, 21, 100, 290}) {
            for (char digit : new char[] {'0', '9'}) {
                String number = ("" + digit).repeat(digits);
                boolean fits = digits <= 18;
                Check.due(digits + " digits", telling("b=" + number), fits ? 1 : Check.fault(2, 2));
                Check.due(digits + " digits", telling("b=-" + number), fits ? 1 : Check.fault(3, 2));
                Check.due(digits + " digits", telling("b=- " + number), fits ? 1 : Check.fault(4, 2));
                Check.due(digits + " digits", telling("b=c+" + number), fits ? 1 : Check.fault(4, 2));
                Check.due(digits + " digits", telling("b=c - " + number), fits ? 1 : Check.fault(6, 2));
                Check.due(digits + " digits", testing("b=" + number), fits ? 0 : Check.fault(2, 2));
            }
        }
        OffsetBook book = Check.told("a=999999999999999999;b=-999999999999999999;c=000000000000000007",
            "d=e+999999999999999999;f=e-999999999999999999;g=-0;h=e-0");
        long[] due = {MOST - 1, 1 - MOST, 7, MOST - 1, 1 - MOST, 0, 0};
        for (int s = 0; s < due.length; s++) {
            Check.due("amount(" + s + ")", book.amount(s), due[s]);
        }
    }

    /** "12 at most"; 5 "the 13th of the TEXT". */
    private static void statementsOfAText() {
        for (int many = 1; many <= 20; many++) {
            OffsetBook book = new OffsetBook();
            Check.due(many + " STATEMENTS", Check.tell(book, Check.again("a=1", many)),
                many <= 12 ? many : Check.fault(48, 5));
            Check.due("STATEMENTS then", book.count(1), many <= 12 ? many : 0);
        }
        Check.due("behind a 12th", telling(Check.again("a=1", 12) + ";"), Check.fault(48, 1));
        Check.due("behind a 12th", telling(Check.again("a=1", 12) + " "), 12);
        Check.due("a 13th that is none", telling(Check.again("a=1", 12) + ";="), Check.fault(48, 1));
        Check.due("a 13th by its first letter", telling(Check.again("a=1", 12) + "; a"), Check.fault(49, 5));
    }

    /** "120 at most are kept"; 5 "or the 121st". */
    private static void statementsKept() {
        for (int kept : KEPT) {
            for (int many = 1; many <= 13; many++) {
                OffsetBook book = Check.withStatements(kept);
                int fits = Math.min(12, 120 - kept);
                Check.due(many + " behind " + kept, Check.tell(book, Check.again("a=1", many)),
                    many <= fits ? kept + many : Check.fault(4 * fits, 5));
                Check.due("STATEMENTS then", book.count(1), many <= fits ? kept + many : kept);
            }
            OffsetBook book = Check.withStatements(kept);
            Check.due("test behind " + kept, Check.test(book, "  a=1"), kept < 120 ? 1 : Check.fault(2, 5));
            Check.due("a TEXT of none", Check.tell(book, " "), Check.fault(1, 1));
        }
        OffsetBook book = Check.withStatements(120);
        Check.due("the last", book.statement(119, 0), 1);
        Check.due("one behind it", book.statement(120, 0), -1);
        Check.due("the last", book.amount(119), 1);
        Check.due("one behind it", book.amount(120), Check.NOTHING);
    }

    private static void retractedOnesAreKept() {
        OffsetBook book = Check.withStatements(120);
        Check.due("retract", book.retract(119), 119);
        Check.due("a 121st", Check.tell(book, "a=1"), Check.fault(0, 5));
        Check.due("retract", book.retract(0), 118);
        Check.due("a 121st", Check.test(book, "a=1"), Check.fault(0, 5));
    }

    private static void undoneOnesAreNotKept() {
        OffsetBook book = Check.withStatements(120);
        Check.due("undo", book.undo(), 9);
        Check.due("12 more", Check.tell(book, Check.again("a=2", 12)), 120);
        Check.due("a 121st", Check.tell(book, "a=1"), Check.fault(0, 5));
        Check.due("undo", book.undo(), 9);
        Check.due("test", Check.test(book, "a=2"), 2);
    }

    /** "40 NAMES at most"; 3 "a NAME (where it begins) that would be the 41st". */
    private static void namesThereAre() {
        for (int names = 28; names <= 40; names++) {
            for (int many = 1; many <= 12; many++) {
                OffsetBook book = Check.withNames(names);
                boolean fits = names + many <= 40;
                Check.due(many + " NAMES behind " + names, Check.tell(book, Check.values(names, many)),
                    fits ? names + many : Check.fault(5 * (40 - names), 3));
                Check.due("GAUGES then", book.count(0), 1 + names + (fits ? many : 0));
            }
            OffsetBook book = Check.withNames(names);
            int over = names == 40 ? Check.fault(0, 3) : names == 39 ? Check.fault(4, 3) : 0;
            Check.due("test of two more behind " + names, Check.test(book, "zy= zz"), over);
            Check.due("two more behind " + names, Check.tell(book, "zy= zz"), over == 0 ? names + 1 : over);
            Check.due("a second one behind =", Check.tell(Check.withNames(names), "aa = zz"),
                names == 40 ? Check.fault(5, 3) : names + 1);
        }
        OffsetBook book = Check.withNames(40);
        Check.due("one that is not there", Check.tell(book, "aa=bo"), Check.fault(3, 3));
        Check.due("those that are there", Check.tell(book, "aa=bn;an=ab+0"), 42);
        Check.due("one that is not there", Check.gauge(book, "bo"), -1);
        Check.due("the last one", Check.gauge(book, "bn"), 40);
        Check.due("its letter", book.letter(40, 1), 14);
        Check.due("behind it", book.letter(41, 0), -1);
    }

    private static void namesOfATextWithAFault() {
        OffsetBook book = Check.withNames(39);
        Check.due("a 40th and a FAULT", Check.tell(book, "zz=1;?"), Check.fault(5, 1));
        Check.due("test of a 40th", Check.test(book, "zz=1"), 0);
        Check.due("another 40th", Check.tell(book, "zy=1"), 40);
        Check.due("a 41st", Check.tell(book, "zz=1"), Check.fault(0, 3));
    }

    private static void undoneNamesAreNotThere() {
        OffsetBook book = Check.withNames(40);
        Check.due("undo", book.undo(), 3);
        Check.due("GAUGES", book.count(0), 37);
        Check.due("4 others", Check.tell(book, "za=1;zb=1;zc=1;zd=1"), 40);
        Check.due("a 41st", Check.tell(book, Check.name(39) + "=1"), Check.fault(0, 3));
        Check.due("in its place", Check.gauge(book, "zd"), 40);
    }

    /** 4 "a NAME behind = that is the one ahead of it (where it begins)". */
    private static void sameNameOnBothSides() {
        Check.due("a", telling("a=a"), Check.fault(2, 4));
        Check.due("6 letters", telling("abcdef = abcdef"), Check.fault(9, 4));
        Check.due("with a NUMBER", telling("a=a+1"), Check.fault(2, 4));
        Check.due("in the second", telling("a=1;b=b"), Check.fault(6, 4));
        Check.due("one ahead of another STATEMENT", telling("a=b;b=a"), 2);
        Check.due("one that is only longer", telling("a=aa;aa=aaa"), 2);
        Check.due("one that is only shorter", telling("ab=a"), 1);
        Check.due("test", testing("a = a"), Check.fault(4, 4));
        Check.due("test of others", testing("a = b"), 0);
        OffsetBook book = Check.withNames(40);
        Check.due("of one that is not there", Check.tell(book, "bo=bo"), Check.fault(0, 3));
        Check.due("of the first that is there", Check.tell(book, "aa=aa"), Check.fault(3, 4));
        Check.due("of the last that is there", Check.test(book, "bn=bn"), Check.fault(3, 4));
    }

    /** "of the first place along it that is wrong": two are wrong, the first one counts. */
    private static void firstPlaceThatIsWrong() {
        String[] wrong = {"?", "abcdefg=1", "b=1234567890123456789", "b=b"};
        int[] places = {0, 0, 2, 2};
        int[] why = {1, 2, 2, 4};
        for (int n = 0; n < wrong.length; n++) {
            for (String next : wrong) {
                Check.due(wrong[n] + ", " + next, telling(wrong[n] + ";" + next), Check.fault(places[n], why[n]));
                Check.due("a=1; " + wrong[n] + ", " + next, telling("a=1;" + wrong[n] + ";" + next),
                    Check.fault(places[n] + 4, why[n]));
            }
        }
        OffsetBook full = Check.withNames(40);
        Check.due("a 41st, then a wrong byte", Check.tell(full, "zz=1?"), Check.fault(0, 3));
        Check.due("a wrong byte, then a 41st", Check.tell(full, "aa=1?;zz=1"), Check.fault(4, 1));
        Check.due("a wrong byte, then a 13th", telling(Check.again("a=1", 12) + "?;a=1"), Check.fault(47, 1));
    }

    /** "Of one place the least": a NAME too long that would be the 41st, too. */
    private static void leastOfOnePlace() {
        OffsetBook book = Check.withNames(40);
        Check.due("2 and 3", Check.tell(book, "abcdefg=1"), Check.fault(0, 2));
        Check.due("2 and 3 behind =", Check.tell(book, "aa=abcdefg"), Check.fault(3, 2));
        Check.due("3 alone", Check.tell(book, "abcdef=1"), Check.fault(0, 3));
        Check.due("1 ahead of all", Check.tell(book, "Abcdefg=1"), Check.fault(0, 1));
    }

    /** "A NAME, a NUMBER are judged when they have been read": none of their bytes is wrong. */
    private static void judgedWhenRead() {
        Check.due("a long NAME that ends with a wrong byte", telling("abcdefgH"), Check.fault(0, 2));
        Check.due("a NAME that ends with a wrong byte", telling("abcdefH"), Check.fault(6, 1));
        Check.due("a long NAME where the TEXT ends", telling("abcdefg"), Check.fault(0, 2));
        Check.due("a long NUMBER, then a letter", telling("a=1234567890123456789z"), Check.fault(2, 2));
        Check.due("a NUMBER, then a letter", telling("a=123456789012345678z"), Check.fault(20, 1));
        Check.due("the same NAME, then a digit", telling("a=a5"), Check.fault(2, 4));
        Check.due("one that only begins like it", telling("a=ab"), 1);
    }

    /** "a STATEMENT that is one too many as soon as a NAME begins it". */
    private static void oneTooManyAsItBegins() {
        String[] more = {"a", "a=1", "abcdefg", "zz=1", "a?", "a=a"};
        for (String next : more) {
            OffsetBook book = Check.withNames(40);
            String twelve = Check.again("aa=1", 12) + ";";
            Check.due("13th " + next, Check.tell(book, twelve + next), Check.fault(60, 5));
            Check.due("121st " + next, Check.tell(Check.withStatements(120), " " + next), Check.fault(1, 5));
            Check.due("121st in test " + next, Check.test(Check.withStatements(120), next), Check.fault(0, 5));
        }
        for (String next : new String[] {"", " ", "5", "=", ";", "?", "A"}) {
            int place = next.equals(" ") ? 1 : 0;
            Check.due("no NAME begins it", Check.tell(Check.withStatements(120), next), Check.fault(place, 1));
            Check.due("no NAME begins it", Check.test(Check.withStatements(120), next), Check.fault(place, 1));
        }
    }

    /** "3 BEYOND, if .. two GAUGES of these would differ by more than 1000000000000000000". */
    private static void asFarAsCanBe() {
        for (int side = -1; side <= 1; side += 2) {
            String sign = side < 0 ? "-" : "";
            String more = side < 0 ? "-" : "+";
            OffsetBook book = Check.told("a=" + sign + "999999999999999999");
            Check.due("just as far", Check.test(book, "b=a" + more + "1"), 0);
            Check.due("one farther", Check.test(book, "b=a" + more + "2"), 3);
            Check.due("much farther", Check.test(book, "b=a" + more + "999999999999999999"), 3);
            Check.due("tell", Check.tell(book, "b=a" + more + "2"), 2);
            Check.due("it is BEYOND", book.statement(1, 0), 3);
            Check.due("nothing is known by it", book.difference(2, 1), Check.NOTHING);
            Check.due("GROUPS", book.count(7), 2);
            Check.due("tell", Check.tell(book, "b=a" + more + "1"), 3);
            Check.due("it JOINS", book.statement(2, 0), 0);
            Check.due("as far as can be", book.difference(2, 0), side * MOST);
            Check.due("SPAN", book.span(0), MOST);
            Check.due("twos", book.twos(MOST), 1);
            Check.due("twos", book.twos(MOST + 1), 0);
            Check.due("within one GROUP it is REFUSED", Check.test(book, "b=a" + more + "2"), 2);
            Check.due("or KNOWN", Check.test(book, "b=a" + more + "1"), 1);
        }
    }

    /** The far ends of both GROUPS count, not the two GAUGES of the STATEMENT. */
    private static void farEndsOfGroups() {
        OffsetBook book = Check.told("a=400000000000000000;b=-400000000000000000",
            "c=d+100000000000000000;e=d-100000000000000000");
        Check.due("SPANS", book.span(0) + book.span(3), MOST);
        Check.due("far end at far end", Check.test(book, "c=b"), 0);
        Check.due("one farther", Check.test(book, "c=b-1"), 3);
        Check.due("far end at far end", Check.test(book, "a=e"), 0);
        Check.due("one farther", Check.test(book, "a=e-1"), 3);
        Check.due("the middle of one", Check.test(book, "d=500000000000000000"), 0);
        Check.due("one farther", Check.test(book, "d=500000000000000001"), 3);
        Check.due("the middle of one", Check.test(book, "d=-500000000000000000"), 0);
        Check.due("one farther", Check.test(book, "d=-500000000000000001"), 3);
        Check.due("the far one", Check.test(book, "e=a+1"), 3);
        Check.due("the far one", Check.test(book, "e=a"), 0);
        Check.due("the near one", Check.test(book, "e=a-200000000000000000"), 0);
        Check.due("one GROUP in the other", Check.test(book, "d=0"), 0);
    }

    private static void beyondInEitherOrder() {
        OffsetBook book = Check.told("a=b+999999999999999999;c=a+1;d=e+999999999999999999;f=d+1");
        String[] joining = {"c=f", "f=c", "b=e", "e=b", "a=d", "d=a"};
        for (String text : joining) {
            Check.due(text, Check.test(book, text), 0);
            Check.due(text + "+1", Check.test(book, text + "+1"), 3);
            Check.due(text + "-1", Check.test(book, text + "-1"), 3);
        }
        for (String text : new String[] {"b=f", "c=e", "b=f+999999999999999999", "e=c+999999999999999999"}) {
            Check.due(text, Check.test(book, text), 3);
        }
        Check.due("as far as can be", Check.test(book, "c=e+999999999999999999"), 3);
        Check.due("as far as can be", Check.test(book, "a=e+999999999999999999"), 0);
    }

    /** "in one GROUP": KNOWN or REFUSED, however far it would lead. */
    private static void neverBeyondInOneGroup() {
        OffsetBook book = Check.told("a=999999999999999999;b=a+1;c=0");
        Check.due("as it is", Check.test(book, "a=999999999999999999"), 1);
        Check.due("the other way", Check.test(book, "a=-999999999999999999"), 2);
        Check.due("as it is", Check.test(book, "c=a-999999999999999999"), 1);
        Check.due("the other way", Check.test(book, "c=a+999999999999999999"), 2);
        Check.due("as far as can be told", Check.test(book, "b=999999999999999999"), 2);
        Check.due("as far as can be told", Check.test(book, "c=b-999999999999999999"), 2);
        Check.due("as far as can be told", Check.test(book, "b=c-999999999999999999"), 2);
    }

    /** "The last 20 can be UNDONE, the last first". */
    private static void lastTwentyActs() {
        for (int acts : new int[] {1, 19, 20, 21, 22, 40, 41}) {
            OffsetBook book = new OffsetBook();
            for (int n = 1; n <= acts; n++) {
                Check.tell(book, "a=" + n);
                Check.due("ACTS", book.count(10), Math.min(n, 20));
            }
            int can = Math.min(acts, 20);
            for (int n = 1; n <= can; n++) {
                Check.due("undo " + n + " of " + acts, book.undo(), can - n);
                Check.due("STATEMENTS", book.count(1), acts - n);
                Check.due("the last of these", book.amount(acts - n - 1), acts > n ? acts - n : Check.NOTHING);
            }
            Check.due("one more of " + acts, book.undo(), -1);
            Check.due("STATEMENTS", book.count(1), acts - can);
        }
    }

    /** ACTS come and go many times round: always the last 20 of those that still hold. */
    private static void ringOfActs() {
        OffsetBook book = new OffsetBook();
        int kept = 0;
        int can = 0;
        for (int round = 0; round < 9; round++) {
            for (int n = 0; n < 7; n++) {
                kept++;
                can = Math.min(can + 1, 20);
                Check.due("tell", Check.tell(book, "a=" + kept), kept);
            }
            for (int n = 0; n < 3; n++) {
                kept--;
                can--;
                Check.due("undo", book.undo(), can);
            }
        }
        for (; can > 0; can--) {
            Check.due("undo", book.undo(), can - 1);
            kept--;
            Check.due("STATEMENTS", book.count(1), kept);
        }
        Check.due("undo", book.undo(), -1);
        Check.due("STATEMENTS", book.count(1), kept);
    }

    /** "An object is used for at most 512 calls": the last of them answers as the first. */
    private static void the512thCall() {
        OffsetBook book = new OffsetBook();
        int calls = 0;
        for (int n = 0; n < 120; n++) {
            book.feed(0x613d3100, 0, 0, 0, 0);
            book.end(3);
            Check.due("tell", book.tell(), n + 1);
            Check.due("retract", book.retract(n), 0);
            calls += 4;
        }
        for (int n = 0; n < 31; n++, calls++) {
            Check.due("restore", book.restore(n), n + 1);
        }
        Check.due("calls", calls, 511);
        Check.due("the 512th", book.restore(31), 32);
    }
}
