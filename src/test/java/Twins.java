import java.util.ArrayList;
import java.util.List;
import java.util.function.Consumer;
import java.util.function.Function;
import java.util.function.Supplier;
import java.util.function.ToLongFunction;

/**
 * Objects that are made alike: one of them has a call more, and all that can be asked of it
 * afterwards is held against the other. What no question shows (what is on the TAPE, what would
 * be UNDONE, what is in an IMAGE, of which sort a PIN is) is brought to light by going on; as
 * that changes it, and as an object is good for 512 calls, each part has objects of its own.
 */
final class Twins {
    private static final List<Function<OffsetBook, List<String>>> PARTS = List.of(
        Twins::counts, Twins::statements, Twins::gauges, Twins::ways, Twins::told, Twins::named,
        Twins::undone, book -> gone(book, 0), book -> gone(book, 1), Twins::sorts);

    private Twins() {
    }

    static void nothingHappens(String what, Supplier<OffsetBook> making,
        ToLongFunction<OffsetBook> call, long due) {
        happens(what, making, call, due, book -> { });
    }

    /** The call answers what is due, and nothing happens but for what is done to the other. */
    static void happens(String what, Supplier<OffsetBook> making, ToLongFunction<OffsetBook> call,
        long due, Consumer<OffsetBook> change) {
        for (Function<OffsetBook, List<String>> part : PARTS) {
            OffsetBook one = making.get();
            OffsetBook other = making.get();
            Check.due(what, call.applyAsLong(one), due);
            change.accept(other);
            alike(what, part.apply(one), part.apply(other));
        }
    }

    private static void alike(String what, List<String> one, List<String> other) {
        Check.due(what + ": how many answers then", one.size(), other.size());
        for (int n = 0; n < one.size() && n < other.size(); n++) {
            String seen = one.get(n);
            Check.holds(what + ": " + seen + " then, due is " + other.get(n), seen.equals(other.get(n)));
        }
    }

    /** Few enough to be asked for: the first ones, and the last ones with the one behind them. */
    private static List<Integer> some(int count, int few) {
        List<Integer> some = new ArrayList<>();
        for (int n = -1; n <= count; n++) {
            if (n < few || n >= count - few) {
                some.add(n);
            }
        }
        return some;
    }

    private static List<String> counts(OffsetBook book) {
        List<String> answers = new ArrayList<>();
        for (int what = -1; what <= 12; what++) {
            answers.add("count(" + what + ") " + book.count(what));
        }
        for (int amount = -1; amount <= 12; amount++) {
            answers.add("twos(" + amount + ") " + book.twos(amount));
        }
        for (int what = -1; what <= 2; what++) {
            answers.add("blame(" + what + ") " + book.blame(what));
        }
        for (int room = -1; room <= 4; room++) {
            answers.add("pinned(0, " + room + ") " + book.pinned(0, room));
            answers.add("pinned(1, " + room + ") " + book.pinned(1, room));
        }
        return answers;
    }

    private static List<String> statements(OffsetBook book) {
        List<String> answers = new ArrayList<>();
        answers.add("count(1) " + book.count(1));
        for (int s : some(book.count(1), 8)) {
            for (int what = 0; what <= 4; what++) {
                answers.add("statement(" + s + ", " + what + ") " + book.statement(s, what));
            }
            answers.add("amount(" + s + ") " + book.amount(s));
            for (int k = -1; k <= 2; k++) {
                answers.add("cut(" + s + ", " + k + ") " + book.cut(s, k));
            }
        }
        return answers;
    }

    private static List<String> gauges(OffsetBook book) {
        List<String> answers = new ArrayList<>();
        answers.add("count(0) " + book.count(0));
        for (int g : some(book.count(0), 4)) {
            answers.add("offset(" + g + ") " + book.offset(g));
            answers.add("group(" + g + ", 0) " + book.group(g, 0));
            answers.add("group(" + g + ", 1) " + book.group(g, 1));
            answers.add("span(" + g + ") " + book.span(g));
            answers.add("mean(" + g + ") " + book.mean(g));
            for (int k = -1; k <= 6; k++) {
                answers.add("letter(" + g + ", " + k + ") " + book.letter(g, k));
                answers.add("order(" + g + ", " + k + ") " + book.order(g, k));
            }
        }
        return answers;
    }

    private static List<String> ways(OffsetBook book) {
        List<String> answers = new ArrayList<>();
        for (int g : some(book.count(0), 3)) {
            for (int h : some(book.count(0), 3)) {
                String twos = "(" + g + ", " + h;
                answers.add("difference" + twos + ") " + book.difference(g, h));
                answers.add("chain" + twos + ", NONE) " + book.chain(g, h, -1));
                answers.add("chain" + twos + ", 1) " + book.chain(g, h, 1));
            }
        }
        return answers;
    }

    private static List<String> told(OffsetBook book) {
        List<String> answers = new ArrayList<>();
        answers.add("tell() " + book.tell());
        answers.addAll(statements(book));
        return answers;
    }

    private static List<String> named(OffsetBook book) {
        List<String> answers = new ArrayList<>();
        answers.add("test() " + book.test());
        for (String name : new String[] {"a", "h", "i", "j", "k", "l", "m", "zz", "aa", "bn"}) {
            answers.add("gauge() of " + name + " " + Check.gauge(book, name));
        }
        answers.addAll(counts(book));
        return answers;
    }

    private static List<String> undone(OffsetBook book) {
        List<String> answers = new ArrayList<>();
        for (int n = 0; n <= 20; n++) {
            answers.add("undo() " + n + " " + book.undo());
            for (int what : new int[] {0, 1, 2, 4, 6}) {
                answers.add("count(" + what + ") " + book.count(what));
            }
            int last = book.count(1) - 1;
            answers.add("the last is " + book.statement(last, 0) + " of " + book.statement(last, 1));
            answers.add("the last tells " + book.amount(last));
        }
        return answers;
    }

    private static List<String> gone(OffsetBook book, int image) {
        List<String> answers = new ArrayList<>();
        answers.add("back(" + image + ") " + book.back(image));
        answers.addAll(counts(book));
        answers.addAll(statements(book));
        return answers;
    }

    /** Of which sort a PIN is shows in which of two further STATEMENTS it takes. */
    private static List<String> sorts(OffsetBook book) {
        List<String> answers = new ArrayList<>();
        for (int pin = 0; pin <= 1; pin++) {
            for (int s : some(book.count(1), 6)) {
                answers.add("pin(" + pin + ", 3, " + s + ") " + book.pin(pin, 3, s));
            }
        }
        answers.addAll(counts(book));
        return answers;
    }
}
