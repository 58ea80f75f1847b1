import java.util.ArrayList;
import java.util.List;
import java.util.Map;
import java.util.TreeMap;

/**
 * Sentences of 'Terms' that say what something is, held against what comes of doing as they say:
 * what RELIES on a STATEMENT is lost with it, a CUT lets a REFUSED one stand, and so on.
 */
public final class SentencesTest {
    private static final String[] BOOKS = {
        "a=b+5;b=c-2;a=c+3;c=a;b=7;a=12;a=13;d=e",
        "a=b;b=c;c=a;c=d;d=e;f=1;a=d+1;e=c",
        "a=5;b=a+1;b=7;b=6;c=d;e=b+999999999999999999;d=c+3;f=a-9",
        "s=a;a=b;b=t;s=c;c=d;d=b;a=e;e=t;s=t+1",
        "a=999999999999999999;b=a+5;b=9;b=a;c=b-1;c=8",
        "d=e;d=b;c=a;a=b;c=d;e=a;a=c;e=7;b=8;b=7",
        "e=-1;d=e-2;c=d;b=c+4;a=b;a=0;a=1"};

    /** In each of these the last one is REFUSED, and no other. */
    private static final String[] REFUSED_LAST = {
        "a=b;a=b+1",
        "a=b;b=c;c=d;a=d+1",
        "a=b;b=c;c=d;d=a+1",
        "a=5;a=5;b=a;b=5;c=b;c=5;c=6",
        "s=a;a=b;b=t;s=c;c=d;d=b;a=e;e=t;s=t+1",
        "s=a;a=b;b=t;s=c;c=d;d=b;a=e;e=t;t=s+1",
        "a=b;a=c;b=d;c=d;b=c;d=e;d=e;a=e+1",
        "a=b;a=c;b=d;c=d;b=c;d=e;d=e;e=a+1",
        "c=a;i=d;b=g;i=c;c=g;d=h;i=f;b=i;h=f;a=f;d=a;a=b+1"};

    public static void main(String[] args) {
        asIfToldInTheirOrder();
        whatIsTestedIsWhatIsTold();
        chainsLead();
        reliedOnIsLost();
        cutLetsItStand();
        fewerDoNot();
        blamedMost();
        ordersOfGroups();
        meansInTheOrderOfNumbers();
        twosOfAllAmounts();
        undoneIsAsAhead();
        imagesAreAsTheyWere();
        Check.finish("SentencesTest");
    }

    private static boolean isIn(int s, int set) {
        return (set >> s & 1) == 1;
    }

    /** NAMES as they first come in a TEXT, behind the GROUND, which has none. */
    private static List<String> names(String text) {
        List<String> names = new ArrayList<>(List.of(""));
        for (String name : text.split("[^a-z]+")) {
            if (!names.contains(name)) {
                names.add(name);
            }
        }
        return names;
    }

    private static String without(String text, int set) {
        String[] statements = text.split(";");
        List<String> left = new ArrayList<>();
        for (int s = 0; s < statements.length; s++) {
            if (!isIn(s, set)) {
                left.add(statements[s]);
            }
        }
        return String.join(";", left);
    }

    /** Told and then RETRACTED, the last of them first or the first first. */
    private static OffsetBook retracted(String text, int set) {
        OffsetBook book = Check.told(text);
        int count = text.split(";").length;
        for (int n = 0; n < count; n++) {
            int s = set % 3 == 0 ? n : count - 1 - n;
            if (isIn(s, set)) {
                Check.holds("retract(" + s + ")", book.retract(s) >= 0);
            }
        }
        return book;
    }

    /** "always as if all STATEMENTS that are not RETRACTED were told in their order". */
    private static void asIfToldInTheirOrder() {
        for (String text : BOOKS) {
            int count = text.split(";").length;
            for (int set = 0; set < 1 << count; set++) {
                OffsetBook book = retracted(text, set);
                String left = without(text, set);
                OffsetBook other = left.isEmpty() ? new OffsetBook() : Check.told(left);
                String call = text + " without " + Integer.toBinaryString(set) + ": ";
                statementsAlike(call, book, set, count, other);
                differencesAlike(call, book, names(text), other, names(left));
                for (int s = 0; s < count; s++) {
                    if (isIn(s, set)) {
                        book.restore(s);
                    }
                }
                statementsAlike(call + "all RESTORED: ", book, 0, count, Check.told(text));
            }
        }
    }

    private static void statementsAlike(String call, OffsetBook book, int set, int count, OffsetBook other) {
        int at = 0;
        for (int s = 0; s < count; s++) {
            if (isIn(s, set)) {
                Check.due(call + "what " + s + " is", book.statement(s, 0), 4);
            } else {
                for (int what : new int[] {0, 3, 4}) {
                    Check.due(call + "statement(" + s + ", " + what + ")", book.statement(s, what),
                        other.statement(at, what));
                }
                Check.due(call + "amount(" + s + ")", book.amount(s), other.amount(at));
                at++;
            }
        }
    }

    private static void differencesAlike(String call, OffsetBook book, List<String> names,
        OffsetBook other, List<String> otherNames) {
        for (int g = 0; g < names.size(); g++) {
            for (int h = 0; h < names.size(); h++) {
                int one = otherNames.indexOf(names.get(g));
                int two = otherNames.indexOf(names.get(h));
                long due = g == h ? 0 : other.difference(one, two);
                Check.due(call + "difference(" + g + ", " + h + ")", book.difference(g, h), due);
            }
        }
    }

    /** "what it would be, were it told now". */
    private static void whatIsTestedIsWhatIsTold() {
        String[] more = {"a=b", "a=b+5", "b=a-5", "q=a", "q=r-3", "a=12", "a=-12", "e=a",
            "q=a+999999999999999999", "b=999999999999999999", "c=d", "c=d+3", "f=0"};
        for (String text : BOOKS) {
            for (String next : more) {
                OffsetBook book = Check.told(text);
                int tested = Check.test(book, next);
                int last = Check.tell(book, next) - 1;
                Check.due("test " + next + " behind " + text, tested, book.statement(last, 0));
            }
        }
    }

    private static int standing(OffsetBook book, int s) {
        int what = book.statement(s, 0);
        return what == 0 || what == 1 ? 1 : 0;
    }

    /** Each of a CHAIN leads on from where the one ahead led, and their amounts add up. */
    private static void chainsLead() {
        for (String text : BOOKS) {
            int gauges = names(text).size();
            for (int one = 0; one < gauges; one++) {
                OffsetBook book = Check.told(text);
                for (int other = 0; other < gauges; other++) {
                    long difference = book.difference(one, other);
                    if (difference != Check.NOTHING) {
                        chainLeads(text + ": " + one + " to " + other, book, one, other, difference);
                    }
                }
            }
        }
    }

    private static void chainLeads(String call, OffsetBook book, int one, int other, long difference) {
        int at = one;
        long more = 0;
        int length = book.chain(one, other, Check.NONE);
        for (int k = 0; k < length; k++) {
            int s = book.chain(one, other, k);
            int first = book.statement(s, 1);
            int second = book.statement(s, 2);
            Check.due(call + ", STANDING", standing(book, s), 1);
            Check.holds(call + ", next to one another", first == at || second == at);
            more += first == at ? book.amount(s) : -book.amount(s);
            at = first == at ? second : first;
        }
        Check.due(call + ", where it leads", at, other);
        Check.due(call + ", its amounts", more, difference);
    }

    /** HANGS, RELY: where none is REFUSED or BEYOND, to RETRACT one leaves just the others. */
    private static void reliedOnIsLost() {
        for (String refused : REFUSED_LAST) {
            String text = refused.substring(0, refused.lastIndexOf(';'));
            for (String more : new String[] {"", ";x=y;y=z", ";x=a;y=x", ";x=a;y=a;x=y"}) {
                String[] statements = (text + more).split(";");
                for (int s = 0; s < statements.length; s++) {
                    if (statements.length <= 12) {
                        lostWith(s, Check.told(text + more), text + more);
                    }
                }
            }
        }
    }

    private static void lostWith(int s, OffsetBook book, String text) {
        int known = book.count(8);
        int groups = book.count(7);
        int hangs = book.statement(s, 3);
        int rely = book.statement(s, 4);
        Check.due("all of " + text + " stand", book.count(2) + book.count(3), book.count(1));
        book.retract(s);
        Check.due("HANGS: " + s + " of " + text, hangs, book.count(7) - groups);
        Check.due("RELY: " + s + " of " + text, rely, known - book.count(8));
    }

    private static int cutOf(OffsetBook book, int refused) {
        int set = 0;
        int before = -1;
        for (int k = 0; k < book.cut(refused, Check.NONE); k++) {
            int s = book.cut(refused, k);
            Check.holds("rising", s > before);
            Check.due("STANDING", standing(book, s), 1);
            before = s;
            set |= 1 << s;
        }
        return set;
    }

    /** CUT: without these the REFUSED one could stand. */
    private static void cutLetsItStand() {
        for (String text : REFUSED_LAST) {
            int last = text.split(";").length - 1;
            OffsetBook book = Check.told(text);
            Check.due("REFUSED: " + text, book.count(4), 1);
            Check.due("the last: " + text, book.statement(last, 0), 2);
            Check.due("then it JOINS: " + text, retracted(text, cutOf(book, last)).statement(last, 0), 0);
        }
    }

    /** CUT: no fewer do, and of as many no others leave so few GAUGES with the first one. */
    private static void fewerDoNot() {
        for (String text : REFUSED_LAST) {
            int last = text.split(";").length - 1;
            int cut = cutOf(Check.told(text), last);
            int left = leftWithFirst(text, cut, last);
            for (int set = 0; set < 1 << last; set++) {
                if (Integer.bitCount(set) <= Integer.bitCount(cut) && set != cut) {
                    int what = retracted(text, set).statement(last, 0);
                    boolean asMany = Integer.bitCount(set) == Integer.bitCount(cut);
                    Check.holds(text + " without " + Integer.toBinaryString(set) + " is " + what,
                        what == 2 || asMany && leftWithFirst(text, set, last) > left);
                }
            }
        }
    }

    private static int leftWithFirst(String text, int set, int refused) {
        OffsetBook book = retracted(text, set | 1 << refused);
        return book.group(book.statement(refused, 1), 1);
    }

    /** BLAME: counted from the CHAINS that are answered. */
    private static void blamedMost() {
        String[] texts = {"a=b;b=c;c=d;a=d+1;b=d+1;a=b+1;a=b+2", "a=c;a=d;d=b;c=b;b=a+1;a=b+1;a=b+2",
            "a=1;b=2;c=3;a=2;b=3;c=4;c=5", "a=b;a=b+1;c=d;c=d+1;c=d+2", "a=b;b=c;c=a;a=c+1;c=a+1;b=a+7"};
        for (String text : texts) {
            OffsetBook book = Check.told(text);
            int[] times = new int[12];
            int worst = 0;
            for (int s = 0; s < book.count(1); s++) {
                int one = book.statement(s, 1);
                int other = book.statement(s, 2);
                for (int k = 0; book.statement(s, 0) == 2 && k < book.chain(one, other, Check.NONE); k++) {
                    times[book.chain(one, other, k)]++;
                }
            }
            for (int s = 0; s < times.length; s++) {
                worst = times[s] > times[worst] ? s : worst;
            }
            Check.due("blame(0) of " + text, book.blame(0), worst);
            Check.due("blame(1) of " + text, book.blame(1), times[worst]);
        }
    }

    /** ORDER: all of the GROUP, "by OFFSET, of like ones by numbers"; SPAN from first to last. */
    private static void ordersOfGroups() {
        for (String text : BOOKS) {
            OffsetBook book = Check.told(text);
            for (int g = 0; g < names(text).size(); g++) {
                int many = book.group(g, 1);
                int before = book.order(g, 0);
                int first = before;
                for (int k = 1; k < many; k++) {
                    int next = book.order(g, k);
                    long more = book.difference(next, before);
                    Check.holds(text + ": " + before + " ahead of " + next, more > 0 || more == 0 && next > before);
                    before = next;
                }
                Check.due(text + ": no more of " + g, book.order(g, many), -2);
                Check.due(text + ": span(" + g + ")", book.span(g), book.difference(before, first));
            }
        }
    }

    /** MEAN: doubles "added in the order of numbers", which can be seen where they are rounded. */
    private static void meansInTheOrderOfNumbers() {
        long[][] values = {{1, 9007199254740992L, 1, -9007199254740992L}, {9007199254740992L, 1, 1, 1},
            {1, 1, 1, 9007199254740992L}, {9007199254740992L, 1, -9007199254740992L, 1},
            {999999999999999999L, 63, 63, 63}, {63, 63, 63, 999999999999999999L}};
        for (long[] row : values) {
            OffsetBook book = new OffsetBook();
            double sum = 0.0;
            for (int n = 0; n < row.length; n++) {
                Check.tell(book, Check.name(n) + "=" + row[n]);
                sum = sum + (double) row[n];
            }
            Check.due("mean(0)", book.mean(0), Double.doubleToLongBits(sum / (row.length + 1)));
        }
    }

    /** Twos are known that differ by some amount: by each, they are all that are known. */
    private static void twosOfAllAmounts() {
        for (String text : BOOKS) {
            OffsetBook book = Check.told(text);
            Map<Long, Integer> twos = new TreeMap<>();
            int known = 0;
            for (int g = 0; g < names(text).size(); g++) {
                for (int h = 0; h < g; h++) {
                    long difference = book.difference(g, h);
                    if (difference != Check.NOTHING) {
                        twos.merge(Math.abs(difference), 1, Integer::sum);
                        known++;
                    }
                }
            }
            Check.due("known: " + text, book.count(8), known);
            twos.forEach((amount, due) -> Check.due("twos(" + amount + "): " + text, book.twos(amount), due));
        }
    }

    /** How many ACTS the crowded one has had. */
    private static final int ACTS = 7;

    /** ACTS that are UNDONE: "all is as ahead of it"; only telling has emptied the TAPE. */
    private static void undoneIsAsAhead() {
        Twins.happens("tell, undo", NothingHappensTest::crowded, book -> {
            Check.due("tell", book.tell(), 13);
            return book.undo();
        }, ACTS, book -> book.end(0));
        for (int s = 0; s < 12; s++) {
            int turned = s;
            Twins.nothingHappens("turn " + s + ", undo", NothingHappensTest::crowded, book -> {
                Check.holds("one of both", book.retract(turned) >= 0 || book.restore(turned) >= 0);
                return book.undo();
            }, ACTS);
        }
        Twins.nothingHappens("many ACTS, all undone", NothingHappensTest::crowded, book -> {
            for (int s = 0; s < 6; s++) {
                book.retract(s);
                book.restore(1);
            }
            int acts = book.count(10) - ACTS;
            for (int n = 1; n < acts; n++) {
                book.undo();
            }
            return book.undo();
        }, ACTS);
    }

    /** IMAGES: "all but PINS, the TAPE"; what happens later is nothing to them. */
    private static void imagesAreAsTheyWere() {
        for (int image = 0; image <= 1; image++) {
            int k = image;
            Twins.happens("image(" + k + "), more, back", NothingHappensTest::crowded, book -> {
                book.image(k);
                book.retract(0);
                book.undo();
                book.undo();
                book.retract(3);
                book.pin(0, 0, 3);
                Check.tell(book, "m=n;k=a+4;a=99");
                return book.back(k);
            }, 12, book -> {
                book.image(k);
                book.back(k);
                book.pin(0, 0, 3);
                book.end(0);
            });
        }
    }
}
