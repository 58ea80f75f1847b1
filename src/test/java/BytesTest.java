/**
 * Terms, FAULT 1: which of the 256 bytes can stand at each place of a TEXT, and where one ends;
 * promises 2 and 3: which bytes come to the TAPE and stay there.
 */
public final class BytesTest {
    private static final int OK = 1;

    /** A place in a TEXT: what is ahead of it, and which bytes can stand there. */
    private record Place(String ahead, String mayStand, boolean mayEnd) {
    }

    private static final String LETTERS = "abcdefghijklmnopqrstuvwxyz";
    private static final String DIGITS = "0123456789";

    private static final Place[] PLACES = {
        new Place("", " " + LETTERS, false),
        new Place(" ", " " + LETTERS, false),
        new Place("q", " =" + LETTERS, false),
        new Place("q ", " =", false),
        new Place("qq=", " -" + LETTERS + DIGITS, false),
        new Place("qq= ", " -" + LETTERS + DIGITS, false),
        new Place("q=-", " " + DIGITS, false),
        new Place("q=- ", " " + DIGITS, false),
        new Place("q=5", " ;" + DIGITS, true),
        new Place("q=-5", " ;" + DIGITS, true),
        new Place("q=5 ", " ;", true),
        new Place("qq=b", " ;+-" + LETTERS, true),
        new Place("qq=b ", " ;+-", true),
        new Place("q=b+", " " + DIGITS, false),
        new Place("q=b+ ", " " + DIGITS, false),
        new Place("q=b-", " " + DIGITS, false),
        new Place("q=b- ", " " + DIGITS, false),
        new Place("q=b+5", " ;" + DIGITS, true),
        new Place("q=b-5", " ;" + DIGITS, true),
        new Place("q=b+5 ", " ;", true),
        new Place("q=5;", " " + LETTERS, false),
        new Place("q=b; ", " " + LETTERS, false),
        new Place("q=b-5 ;q", " =" + LETTERS, false)};

    public static void main(String[] args) {
        everyByteAtEveryPlace();
        theTextEnds();
        everyGapWithBlanks();
        blanksEndAWord();
        lastAndFirstBytesOfSorts();
        aTextOf300Bytes();
        upTo300BytesCome();
        theHighestByteFirst();
        whatIsLeftOutIsGone();
        Check.finish("BytesTest");
    }

    private static int telling(String text) {
        return Check.tell(new OffsetBook(), text);
    }

    private static int testing(String text) {
        return Check.test(new OffsetBook(), text);
    }

    /** "1 a byte that can't stand there"; in test() "behind it nothing can stand". */
    private static void everyByteAtEveryPlace() {
        for (Place place : PLACES) {
            int at = place.ahead.length();
            for (char sign = 0; sign < 256; sign++) {
                String text = place.ahead + sign;
                String call = "tell " + place.ahead + " and byte " + (int) sign;
                boolean fits = place.mayStand.indexOf(sign) >= 0;
                int answer = telling(text);
                Check.due(call + " stands", answer == Check.fault(at, 1) ? 0 : 1, fits ? 1 : 0);
                if (fits && !endsStatement(place, sign)) {
                    Check.due(call + ", the end", answer, Check.fault(at + 1, 1));
                } else if (fits) {
                    Check.due(call, answer, statements(place));
                }
                if (place.ahead.indexOf(';') < 0) {
                    boolean alone = fits && sign != ';';
                    Check.due(call + " stands in test", testing(text) == Check.fault(at, 1) ? 0 : 1,
                        alone ? 1 : 0);
                }
            }
        }
    }

    /** Whether a TEXT can end behind a byte that can stand there. */
    private static boolean endsStatement(Place place, char sign) {
        boolean begun = place.ahead.endsWith("=") || place.ahead.endsWith("= ");
        boolean signed = place.ahead.trim().endsWith("-") || place.ahead.trim().endsWith("+");
        if (DIGITS.indexOf(sign) >= 0) {
            return true;
        }
        if (LETTERS.indexOf(sign) >= 0) {
            return begun || place.mayEnd;
        }
        return sign == ' ' && place.mayEnd && !signed;
    }

    private static int statements(Place place) {
        return place.ahead.indexOf(';') < 0 ? 1 : 2;
    }

    /** "or the TEXT ends (the place behind its last byte)". */
    private static void theTextEnds() {
        for (Place place : PLACES) {
            int at = place.ahead.length();
            Check.due("tell " + place.ahead, telling(place.ahead),
                place.mayEnd ? statements(place) : Check.fault(at, 1));
            if (place.ahead.indexOf(';') < 0) {
                Check.due("test " + place.ahead, testing(place.ahead),
                    place.mayEnd ? 0 : Check.fault(at, 1));
            }
        }
    }

    /** "Blanks (32) stand between as one likes": none, one or many in each gap. */
    private static void everyGapWithBlanks() {
        String[] words = {"ab", "=", "c", "-", "12", ";", "c", "=", "-", "7", ";", "ab", "=", "d"};
        for (int gap = 0; gap <= words.length; gap++) {
            for (int blanks = 0; blanks <= 3; blanks++) {
                StringBuilder text = new StringBuilder();
                for (int n = 0; n <= words.length; n++) {
                    text.append(" ".repeat(n == gap ? blanks : 0)).append(n < words.length ? words[n] : "");
                }
                OffsetBook book = new OffsetBook();
                Check.due("tell " + text, Check.tell(book, text.toString()), 3);
                Check.due("amount(0) of " + text, book.amount(0), -12);
                Check.due("amount(1) of " + text, book.amount(1), -7);
                Check.due("amount(2) of " + text, book.amount(2), 0);
                Check.due("GAUGES of " + text, book.count(0), 4);
            }
        }
    }

    /** "as far as they go on": a blank ends a NAME and a NUMBER. */
    private static void blanksEndAWord() {
        Check.due("a NAME in two", telling("a b=5"), Check.fault(2, 1));
        Check.due("a NAME in two behind =", telling("a=b c"), Check.fault(4, 1));
        Check.due("a NUMBER in two", telling("a=1 2"), Check.fault(4, 1));
        Check.due("a NUMBER in two behind a sign", telling("a=b+1 2"), Check.fault(6, 1));
        Check.due("a digit ends a NAME", telling("a5=5"), Check.fault(1, 1));
        Check.due("a letter ends a NUMBER", telling("a=5b"), Check.fault(3, 1));
    }

    /** "small letters", "digits": their first, their last, and the bytes next to these. */
    private static void lastAndFirstBytesOfSorts() {
        OffsetBook book = Check.told("az=za-9876543210", "zzzzzz=09");
        Check.due("first letter a", book.letter(1, 0), 1);
        Check.due("last letter z", book.letter(1, 1), 26);
        Check.due("all digits", book.amount(0), -9876543210L);
        Check.due("0 ahead", book.amount(1), 9);
        char[] next = {'a' - 1, 'z' + 1, '0' - 1, '9' + 1, ' ' - 1, ' ' + 1, 'A', 'Z'};
        for (char sign : next) {
            Check.due("byte " + (int) sign, telling("b=" + sign), Check.fault(2, 1));
            Check.due("byte " + (int) sign, telling("b=5" + sign), Check.fault(3, 1));
            Check.due("byte " + (int) sign, telling("b=c" + sign), Check.fault(3, 1));
        }
    }

    /** "A TEXT of at most 300 bytes". */
    private static void aTextOf300Bytes() {
        Check.due("300 bytes", telling("a=" + " ".repeat(297) + "b"), OK);
        Check.due("300 bytes, the last is wrong", telling("a=b" + " ".repeat(296) + "?"),
            Check.fault(299, 1));
        Check.due("300 bytes that want more", telling("a=" + " ".repeat(298)), Check.fault(300, 1));
        Check.due("299 bytes that want more", telling("a=" + " ".repeat(297)), Check.fault(299, 1));
        Check.due("test of 300 bytes", testing(" ".repeat(297) + "a=b"), 0);
        Check.due("a NUMBER that ends there", telling(" ".repeat(280) + "a=123456789012345678"), OK);
        Check.due("one that would go on", telling(" ".repeat(279) + "a=1234567890123456789"),
            Check.fault(281, 2));
        Check.due("a NAME that ends there", telling(" ".repeat(292) + "a=abcdef"), OK);
        Check.due("one that would go on", telling(" ".repeat(291) + "a=abcdefg"), Check.fault(293, 2));
    }

    /** "NONE, and none comes, if it would have more than 300". */
    private static void upTo300BytesCome() {
        for (int length = 278; length <= 300; length++) {
            OffsetBook book = new OffsetBook();
            Check.put(book, "a=b" + " ".repeat(length - 3));
            int due = length <= 280 ? length + 20 : -1;
            Check.due("feed behind " + length, book.feed(0x20202020, 0x20202020, 0x20202020,
                0x20202020, 0x2020203f), due);
            Check.due("bytes then", book.count(11), due == -1 ? length : due);
            Check.due("the last byte has come", book.tell(),
                due == -1 ? OK : Check.fault(length + 19, 1));
        }
        OffsetBook book = new OffsetBook();
        for (int n = 1; n <= 15; n++) {
            Check.due("feed " + n, book.feed(0, 0, 0, 0, 0), 20 * n);
        }
        Check.due("feed 16", book.feed(0, 0, 0, 0, 0), -1);
        Check.due("bytes", book.count(11), 300);
    }

    /** "of each number the highest first": each of the twenty has its place. */
    private static void theHighestByteFirst() {
        for (int place = 0; place < 20; place++) {
            for (int sign : new int[] {0, 127, 128, 255}) {
                int[] five = {0x20202020, 0x20202020, 0x20202020, 0x20202020, 0x20202020};
                int shift = 24 - 8 * (place % 4);
                five[place / 4] = five[place / 4] & ~(255 << shift) | sign << shift;
                OffsetBook book = new OffsetBook();
                Check.due("feed", book.feed(five[0], five[1], five[2], five[3], five[4]), 20);
                Check.due("byte " + sign + " at " + place, book.tell(), Check.fault(place, 1));
            }
        }
    }

    /** "The TAPE has its first n bytes alone": what comes next stands behind these. */
    private static void whatIsLeftOutIsGone() {
        String text = "ab=cd+12";
        int[] due = {Check.fault(0, 1), Check.fault(1, 1), Check.fault(2, 1), Check.fault(3, 1), OK,
            OK, Check.fault(6, 1), OK, OK};
        for (int n = 0; n <= text.length(); n++) {
            OffsetBook book = new OffsetBook();
            Check.put(book, text);
            Check.due("end(" + n + ")", book.end(n), n);
            Check.due("bytes", book.count(11), n);
            Check.due("no more than these can stay", book.end(n + 1), -1);
            Check.due("tell the first " + n, book.tell(), due[n]);
            Check.put(book, text);
            book.end(n);
            Check.due("behind these", book.feed(0x3f3f3f3f, 0, 0, 0, 0), n + 20);
            Check.due("tell with ? at " + n, book.tell(), Check.fault(n, 1));
        }
    }
}
