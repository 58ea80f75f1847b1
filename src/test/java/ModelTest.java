import java.nio.charset.StandardCharsets;
import java.util.List;
import java.util.Random;

/** Long runs of calls (always the same ones) on the program and on the Model, side by side. */
public final class ModelTest {
    private static final int[] ODD = {-3, -2, -1, Integer.MIN_VALUE, Integer.MAX_VALUE, 1000};

    private final OffsetBook book = new OffsetBook();
    private final Model model = new Model();
    private final Random random;
    private final int names;
    private final long[] values;
    private final String run;
    private final int questions;
    private int calls = 0;

    private ModelTest(int seed) {
        random = new Random(seed);
        int[] sizes = {3, 5, 8, 11, 45};
        names = sizes[random.nextInt(sizes.length)];
        values = new long[names + 1];
        long[] widths = {3, 12, 1000, 900000000000000000L};
        long width = widths[random.nextInt(widths.length)];
        for (int n = 1; n <= names; n++) {
            values[n] = (long) ((random.nextDouble() - 0.5) * width);
        }
        run = "run " + seed + ": ";
        questions = random.nextInt(5);
    }

    public static void main(String[] args) {
        int runs = args.length > 0 ? Integer.parseInt(args[0]) : 1500;
        for (int seed = 0; seed < runs && !Check.anyWrong(); seed++) {
            new ModelTest(seed).go();
        }
        for (int seed = 0; seed < runs / 30 && !Check.anyWrong(); seed++) {
            new ModelTest(seed).crowd();
        }
        Check.finish("ModelTest");
    }

    /** An object is good for so many calls; what it answers later is free. */
    private static final int CALLS = 512;

    private static final class Spent extends RuntimeException {
        private static final long serialVersionUID = 1L;
    }

    private void due(String call, long got, long want) {
        Check.due(run + call, got, want);
        calls++;
        if (calls == CALLS) {
            throw new Spent();
        }
    }

    private void go() {
        try {
            int acts = 10 + random.nextInt(70);
            for (int n = 0; n < acts && !Check.anyWrong(); n++) {
                change();
                for (int q = random.nextInt(questions + 1); q > 0; q--) {
                    ask();
                }
            }
            while (!Check.anyWrong()) {
                ask();
            }
        } catch (Spent spent) {
            // The next run has a new object.
            return;
        }
    }

    /** All STATEMENTS that can be kept, between many GAUGES, so that many ways have to be cut. */
    private void crowd() {
        try {
            int gauges = 14 + random.nextInt(27);
            int knots = 1 + random.nextInt(4);
            for (int n = 0; n < 120; n += 12) {
                StringBuilder text = new StringBuilder();
                for (int s = n; s < n + 12; s++) {
                    text.append(s == n ? "" : ";").append(crowded(gauges, knots, s >= 112));
                }
                write(text.toString());
                due("tell", book.tell(), model.tell());
            }
            while (!Check.anyWrong()) {
                ask();
                askCut(112 + random.nextInt(8));
            }
        } catch (Spent spent) {
            // The next run has a new object.
            return;
        }
    }

    /** Most are within one of the knots of GAUGES; all that are not wrong tell that all are alike. */
    private String crowded(int gauges, int knots, boolean wrong) {
        int one = 1 + random.nextInt(gauges);
        int other = random.nextInt(gauges + 1);
        if (!wrong && random.nextInt(8) > 0) {
            other = other - other % knots + one % knots;
        }
        if (other == 0 || other == one || other > gauges) {
            return name(one) + (wrong ? "=1" : "=0");
        }
        return name(one) + "=" + name(other) + (wrong ? "+1" : "");
    }

    private void change() {
        int dice = random.nextInt(100);
        if (dice < 45) {
            write(text(1 + random.nextInt(random.nextInt(4) == 0 ? 14 : 3)));
            due("tell", book.tell(), model.tell());
        } else if (dice < 55) {
            write(text(1));
            due("test", book.test(), model.test());
        } else if (dice < 68) {
            int s = someStatement();
            due("retract " + s, book.retract(s), model.turn(s, true));
        } else if (dice < 78) {
            int s = someStatement();
            due("restore " + s, book.restore(s), model.turn(s, false));
        } else if (dice < 88) {
            due("undo", book.undo(), model.undo());
        } else if (dice < 91) {
            int k = random.nextInt(4) - 1;
            due("image " + k, book.image(k), model.image(k));
        } else if (dice < 93) {
            int k = random.nextInt(4) - 1;
            due("back " + k, book.back(k), model.back(k));
        } else if (dice < 98) {
            int pin = random.nextInt(4) - 1;
            int room = random.nextInt(6) - 1;
            int s = someStatement();
            due("pin", book.pin(pin, room, s), model.pin(pin, room, s));
        } else {
            write(name(1 + random.nextInt(names)));
            due("gauge", book.gauge(), model.gauge());
        }
    }

    private int someStatement() {
        return random.nextInt(15) == 0 ? ODD[random.nextInt(ODD.length)]
            : random.nextInt(model.statements() + 2) - (random.nextInt(20) == 0 ? 1 : 0);
    }

    private static String name(int n) {
        return n % 3 == 0 ? "abcde" + (char) ('a' + n % 26) : "" + (char) ('a' + n % 26)
            + (n >= 26 ? "x" : "");
    }

    private String blanks() {
        return random.nextInt(5) == 0 ? " ".repeat(random.nextInt(3)) : "";
    }

    private String text(int statements) {
        StringBuilder text = new StringBuilder(blanks());
        for (int n = 0; n < statements; n++) {
            text.append(n == 0 ? "" : ";").append(blanks()).append(statement()).append(blanks());
        }
        if (random.nextInt(8) == 0) {
            spoil(text);
        }
        return text.length() > 300 ? text.substring(0, 300) : text.toString();
    }

    private String statement() {
        int one = 1 + random.nextInt(names);
        int other = random.nextInt(4) == 0 ? 0 : 1 + random.nextInt(names);
        if (other == one && random.nextInt(20) > 0) {
            other = 0;
        }
        long more = values[one] - values[other];
        if (random.nextInt(4) == 0) {
            more += random.nextInt(3) - 1;
        }
        if (random.nextInt(40) == 0) {
            more = random.nextBoolean() ? 999999999999999999L : -999999999999999998L;
        }
        String sign = more < 0 ? "-" : other == 0 ? "" : "+";
        String right = more == 0 && other != 0 ? "" : sign + blanks() + Math.abs(more);
        return name(one) + blanks() + "=" + blanks() + (other == 0 ? "" : name(other) + blanks()) + right;
    }

    private void spoil(StringBuilder text) {
        String[] bits = {"?", " ", ";", "=", "+", "-", "a", "zz", "7", "777777777777777777", "\0", "\u00ff",
            "abcdef", "A"};
        int at = random.nextInt(text.length() + 1);
        switch (random.nextInt(3)) {
            case 0: text.insert(at, bits[random.nextInt(bits.length)]); break;
            case 1: text.setLength(at); break;
            default: text.delete(at, Math.min(text.length(), at + 1)); break;
        }
    }

    /** Feeds a text, in twenties with odd bytes behind it that are then left out. */
    private void write(String text) {
        byte[] bytes = text.getBytes(StandardCharsets.ISO_8859_1);
        for (int at = 0; at < bytes.length; at += 20) {
            byte[] twenty = new byte[20];
            random.nextBytes(twenty);
            System.arraycopy(bytes, at, twenty, 0, Math.min(20, bytes.length - at));
            int[] five = new int[5];
            for (int k = 0; k < 20; k++) {
                five[k / 4] |= (twenty[k] & 255) << 24 - 8 * (k % 4);
            }
            due("feed", book.feed(five[0], five[1], five[2], five[3], five[4]),
                model.feed(new String(twenty, StandardCharsets.ISO_8859_1)));
        }
        due("end", book.end(bytes.length), model.end(bytes.length));
    }

    private int someGauge() {
        return random.nextInt(12) == 0 ? ODD[random.nextInt(ODD.length)] : random.nextInt(model.gauges() + 1);
    }

    private void ask() {
        int s = someStatement();
        switch (random.nextInt(11)) {
            case 0: case 1: askCount(); break;
            case 2: case 3: askGauge(someGauge()); break;
            case 4: askTwo(someGauge(), someGauge()); break;
            case 5: askTwo(random.nextInt(model.gauges()), random.nextInt(model.gauges())); break;
            case 6: askStatement(s); break;
            case 7: case 8: askCut(s); break;
            case 9: askBlame(); break;
            default: askPins(); break;
        }
    }

    private void askCount() {
        int what = random.nextInt(14) - 1;
        due("count " + what, book.count(what), model.count(what));
        long amount = random.nextInt(10) - 1;
        if (random.nextBoolean()) {
            amount = Math.abs(model.difference(random.nextInt(model.gauges()), random.nextInt(model.gauges())));
        }
        due("twos " + amount, book.twos(amount), amount < 0 ? -1 : model.twos(amount));
    }

    private void askBlame() {
        int[] blame = model.blame();
        due("blame(0)", book.blame(0), blame[0]);
        due("blame(1)", book.blame(1), blame[1]);
    }

    private void askPins() {
        int pin = random.nextInt(4) - 1;
        int room = random.nextInt(6) - 1;
        due("pinned", book.pinned(pin, room), model.pinned(pin, room));
    }

    private void askGauge(int g) {
        boolean there = model.isGauge(g);
        due("offset " + g, book.offset(g), model.offset(g));
        due("group 0 of " + g, book.group(g, 0), there ? model.least(g) : -1);
        due("group 1 of " + g, book.group(g, 1), there ? model.groupOf(g).size() : -1);
        due("mean " + g, book.mean(g), there ? model.mean(g) : Long.MIN_VALUE);
        String name = there && g > 0 ? model.state.names().get(g - 1) : "";
        due("letters of " + g, book.letter(g, -1), there ? name.length() : -1);
        int at = random.nextInt(7);
        due("letter", book.letter(g, at), at < name.length() ? name.charAt(at) - 'a' + 1 : -1);
        List<Integer> order = there ? model.order(g) : List.of();
        int k = random.nextInt(order.size() + 1);
        due("order", book.order(g, k), k < order.size() ? order.get(k) : there ? -2 : -1);
        due("span " + g, book.span(g),
            there ? model.difference(order.get(order.size() - 1), order.get(0)) : Long.MIN_VALUE);
    }

    private void askTwo(int g, int h) {
        due("difference", book.difference(g, h), model.difference(g, h));
        askChain(g, h);
    }

    private void askChain(int g, int h) {
        boolean there = model.isGauge(g) && model.isGauge(h);
        List<Integer> chain = there ? model.chain(g, h) : null;
        int without = there ? -2 : -1;
        due("chain", book.chain(g, h, -1), chain == null ? without : chain.size());
        for (int k = 0; chain != null && k < chain.size(); k++) {
            due("chain at " + k, book.chain(g, h, k), chain.get(k));
        }
        due("chain behind", book.chain(g, h, chain == null ? 0 : chain.size()), without);
    }

    private void askStatement(int s) {
        boolean there = s >= 0 && s < model.statements();
        due("statement 0 of " + s, book.statement(s, 0), there ? model.verdicts.get(s) : -1);
        due("statement 1 of " + s, book.statement(s, 1), there ? model.state.said().get(s).first() : -1);
        due("statement 2 of " + s, book.statement(s, 2), there ? model.state.said().get(s).second() : -1);
        due("statement 3 of " + s, book.statement(s, 3), there ? model.rely(s) > 0 ? 1 : 0 : -1);
        due("statement 4 of " + s, book.statement(s, 4), there ? model.rely(s) : -1);
        due("amount of " + s, book.amount(s), there ? model.state.said().get(s).amount() : Long.MIN_VALUE);
    }

    /** Asks for the CUT of the next one that is REFUSED, if there is one, else of what it is. */
    private void askCut(int from) {
        int s = from;
        while (s >= 0 && s < model.statements() && model.verdicts.get(s) != 2) {
            s++;
        }
        if (s < 0 || s >= model.statements()) {
            due("cut of " + from, book.cut(from, random.nextInt(3) - 1), -1);
            return;
        }
        List<Integer> cut = model.cut(s);
        for (int k = 0; k < cut.size(); k++) {
            due("cut at " + k + " of " + s, book.cut(s, k), cut.get(k));
        }
        due("cut of " + s, book.cut(s, -1), cut.size());
        askChain(random.nextInt(model.gauges()), random.nextInt(model.gauges()));
        due("cut behind", book.cut(s, cut.size()), -2);
    }
}
