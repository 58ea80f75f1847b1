import java.nio.charset.StandardCharsets;

/** What the tests share: answers that are due, and TEXTS put on a TAPE. */
final class Check {
    static final int NONE = OffsetBook.NONE;
    static final long NOTHING = OffsetBook.NOTHING;

    private static int wrong = 0;
    private static int seen = 0;

    private Check() {
    }

    static void due(String call, long got, long want) {
        seen++;
        if (got != want) {
            wrong++;
            if (wrong <= 50) {
                System.out.println(call + " answered " + got + ", due is " + want);
            }
        }
    }

    static void holds(String what, boolean so) {
        due(what, so ? 1 : 0, 1);
    }

    static boolean anyWrong() {
        return wrong > 0;
    }

    static void finish(String test) {
        System.out.println(test + ": " + seen + " answers, " + wrong + " not as due");
        if (wrong != 0 || seen == 0) {
            System.exit(1);
        }
    }

    /** Puts a text (characters 0 to 255) behind an empty TAPE. */
    static void put(OffsetBook book, String text) {
        byte[] bytes = text.getBytes(StandardCharsets.ISO_8859_1);
        for (int at = 0; at < bytes.length; at += 20) {
            book.feed(four(bytes, at), four(bytes, at + 4), four(bytes, at + 8),
                four(bytes, at + 12), four(bytes, at + 16));
        }
        book.end(bytes.length);
    }

    private static int four(byte[] bytes, int at) {
        int number = 0;
        for (int k = at; k < at + 4; k++) {
            number = number << 8 | (k < bytes.length ? bytes[k] & 255 : 0);
        }
        return number;
    }

    static int tell(OffsetBook book, String text) {
        put(book, text);
        return book.tell();
    }

    static int test(OffsetBook book, String text) {
        put(book, text);
        return book.test();
    }

    static int gauge(OffsetBook book, String name) {
        put(book, name);
        return book.gauge();
    }

    static OffsetBook told(String... texts) {
        OffsetBook book = new OffsetBook();
        int statements = 0;
        for (String text : texts) {
            statements += text.split(";").length;
            due("telling " + text, tell(book, text), statements);
        }
        return book;
    }

    /** Of 40 NAMES and more, the n-th (0 the first): two letters each. */
    static String name(int n) {
        return "" + (char) ('a' + n / 26) + (char) ('a' + n % 26);
    }

    /** STATEMENTS that give a value of 1 to so many NAMES, from the n-th on, as one TEXT. */
    static String values(int from, int many) {
        StringBuilder text = new StringBuilder();
        for (int n = from; n < from + many; n++) {
            text.append(n == from ? "" : ";").append(name(n)).append("=1");
        }
        return text.toString();
    }

    /** One with so many NAMES, each with a value of 1. */
    static OffsetBook withNames(int names) {
        OffsetBook book = new OffsetBook();
        for (int n = 0; n < names; n += 12) {
            tell(book, values(n, Math.min(12, names - n)));
        }
        due("GAUGES", book.count(0), names + 1);
        return book;
    }

    /** One with so many STATEMENTS, all of them a=1. */
    static OffsetBook withStatements(int statements) {
        OffsetBook book = new OffsetBook();
        for (int n = 0; n < statements; n += 12) {
            tell(book, again("a=1", Math.min(12, statements - n)));
        }
        due("STATEMENTS", book.count(1), statements);
        return book;
    }

    static String again(String statement, int many) {
        return (statement + ";").repeat(many - 1) + statement;
    }

    static int fault(int place, int why) {
        return -2 - (8 * place + why);
    }
}
