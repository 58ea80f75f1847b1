import java.math.BigInteger;
import java.util.ArrayDeque;
import java.util.ArrayList;
import java.util.Collections;
import java.util.HashMap;
import java.util.List;
import java.util.Map;
import java.util.TreeMap;

/** The document once more, as slow and as plain as can be: the program is held against it. */
final class Model {
    private static final BigInteger MOST = BigInteger.TEN.pow(18);

    record Said(int first, int second, long amount, boolean retracted) {
    }

    record Token(int begin, String text) {
    }

    record State(List<String> names, List<Said> said) {
        State() {
            this(new ArrayList<>(), new ArrayList<>());
        }

        State copy() {
            return new State(new ArrayList<>(names), new ArrayList<>(said));
        }
    }

    State state = new State();
    String tape = "";
    final ArrayDeque<State> ahead = new ArrayDeque<>();
    final State[] images = new State[2];
    final int[][] pins = {{-2, -2, -2, -2}, {-2, -2, -2, -2}};
    final int[] sorts = {-1, -1};
    /** What each STATEMENT is, and the values of GAUGES, each beside its GROUP'S number. */
    final List<Integer> verdicts = new ArrayList<>();
    List<Map<Integer, BigInteger>> groups = new ArrayList<>();

    Model() {
        judge();
    }

    int gauges() {
        return state.names.size() + 1;
    }

    int statements() {
        return state.said.size();
    }

    // ---- the TAPE and TEXTS

    int feed(String twenty) {
        if (tape.length() + 20 > 300) {
            return -1;
        }
        tape += twenty;
        return tape.length();
    }

    int end(int n) {
        if (n < 0 || n > tape.length()) {
            return -1;
        }
        tape = tape.substring(0, n);
        return n;
    }

    private static List<Token> tokens(String text) {
        List<Token> tokens = new ArrayList<>();
        int at = 0;
        while (at < text.length()) {
            int end = at + 1;
            String sort = text.substring(at, end).matches("[a-z]") ? "[a-z]" : "[0-9]";
            if (text.substring(at, end).matches(sort)) {
                while (end < text.length() && text.substring(end, end + 1).matches(sort)) {
                    end++;
                }
            }
            if (text.charAt(at) != ' ') {
                tokens.add(new Token(at, text.substring(at, end)));
            }
            at = end;
        }
        tokens.add(new Token(text.length(), ""));
        return tokens;
    }

    /** The FAULT of a TEXT, or 0, and then what it tells is in the state that is given. */
    private int read(String text, boolean alone, State into) {
        int before = into.said.size();
        String expects = "name";
        String first = "";
        String second = "";
        String sign = "+";
        String number = "0";
        for (Token token : tokens(text)) {
            String word = token.text;
            boolean isName = word.matches("[a-z]+");
            boolean isNumber = word.matches("[0-9]+");
            boolean isEnd = word.isEmpty() || word.equals(";") && !alone;
            List<Integer> faults = new ArrayList<>();
            boolean fits = switch (expects) {
                case "name" -> isName;
                case "=" -> word.equals("=");
                case "right" -> isName || isNumber || word.equals("-");
                case "sign" -> word.equals("+") || word.equals("-") || isEnd;
                case "number" -> isNumber;
                default -> isEnd;
            };
            if (!fits) {
                faults.add(1);
            }
            if (isName && word.length() > 6 || isNumber && word.length() > 18) {
                faults.add(2);
            }
            if (isName && !into.names.contains(word) && into.names.size() == 40) {
                faults.add(3);
            }
            if (isName && expects.equals("right") && word.equals(first)) {
                faults.add(4);
            }
            // Judged as soon as a NAME begins it, so whatever that NAME turns out to be.
            if (isName && expects.equals("name")
                && (into.said.size() - before == 12 || into.said.size() == 120)) {
                return 8 * token.begin + 5;
            }
            if (!faults.isEmpty()) {
                return 8 * token.begin + Collections.min(faults);
            }
            if (isName && !into.names.contains(word)) {
                into.names.add(word);
            }
            if (isEnd) {
                long more = new BigInteger(sign + number).longValueExact();
                into.said.add(new Said(into.names.indexOf(first) + 1,
                    into.names.indexOf(second) + 1, more, false));
                second = "";
                sign = "+";
                number = "0";
                expects = "name";
            } else if (expects.equals("name")) {
                first = word;
                expects = "=";
            } else if (expects.equals("=")) {
                expects = "right";
            } else if (isName) {
                second = word;
                expects = "sign";
            } else if (isNumber) {
                number = word;
                expects = "end";
            } else {
                sign = word;
                expects = "number";
            }
        }
        return 0;
    }

    int tell() {
        State next = state.copy();
        int fault = read(tape, false, next);
        tape = "";
        if (fault != 0) {
            return -2 - fault;
        }
        act(next);
        return statements();
    }

    int test() {
        Model other = new Model();
        other.state = state.copy();
        int fault = read(tape, true, other.state);
        tape = "";
        if (fault != 0) {
            return -2 - fault;
        }
        other.judge();
        return other.verdicts.get(other.statements() - 1);
    }

    int gauge() {
        int found = state.names.indexOf(tape);
        tape = "";
        return found < 0 ? -1 : found + 1;
    }

    // ---- ACTS

    private void act(State next) {
        ahead.addLast(state);
        if (ahead.size() > 20) {
            ahead.removeFirst();
        }
        state = next;
        judge();
    }

    int turn(int s, boolean retracted) {
        if (s < 0 || s >= statements() || state.said.get(s).retracted == retracted) {
            return -1;
        }
        State next = state.copy();
        Said old = next.said.get(s);
        next.said.set(s, new Said(old.first, old.second, old.amount, retracted));
        act(next);
        return standing().size();
    }

    int undo() {
        if (ahead.isEmpty()) {
            return -1;
        }
        state = ahead.removeLast();
        judge();
        return ahead.size();
    }

    int image(int k) {
        if (k < 0 || k > 1) {
            return -1;
        }
        images[k] = state;
        return statements();
    }

    int back(int k) {
        if (k < 0 || k > 1 || images[k] == null) {
            return -1;
        }
        state = images[k];
        ahead.clear();
        judge();
        return statements();
    }

    int pin(int pin, int room, int s) {
        if (pin < 0 || pin > 1 || room < 0 || room > 3 || s < 0 || s >= statements()) {
            return -1;
        }
        int sort = state.said.get(s).second == 0 ? 0 : 1;
        if (sorts[pin] >= 0 && sorts[pin] != sort) {
            return -2;
        }
        sorts[pin] = sort;
        pins[pin][room] = s;
        return sort;
    }

    int pinned(int pin, int room) {
        return pin < 0 || pin > 1 || room < 0 || room > 3 ? -1 : pins[pin][room];
    }

    // ---- the LEDGER

    private void judge() {
        verdicts.clear();
        groups = new ArrayList<>();
        for (int g = 0; g < gauges(); g++) {
            groups.add(new TreeMap<>(Map.of(g, BigInteger.ZERO)));
        }
        for (Said said : state.said) {
            verdicts.add(said.retracted ? 4 : judge(said));
        }
    }

    private int judge(Said said) {
        Map<Integer, BigInteger> one = groupOf(said.first);
        Map<Integer, BigInteger> other = groupOf(said.second);
        BigInteger more = BigInteger.valueOf(said.amount);
        if (one == other) {
            return one.get(said.first).subtract(one.get(said.second)).equals(more) ? 1 : 2;
        }
        Map<Integer, BigInteger> both = new TreeMap<>(other);
        BigInteger shift = other.get(said.second).add(more).subtract(one.get(said.first));
        one.forEach((g, value) -> both.put(g, value.add(shift)));
        for (BigInteger x : both.values()) {
            for (BigInteger y : both.values()) {
                if (x.subtract(y).compareTo(MOST) > 0) {
                    return 3;
                }
            }
        }
        groups.removeIf(g -> g == one || g == other);
        groups.add(both);
        return 0;
    }

    Map<Integer, BigInteger> groupOf(int gauge) {
        for (Map<Integer, BigInteger> group : groups) {
            if (group.containsKey(gauge)) {
                return group;
            }
        }
        return null;
    }

    boolean isGauge(int g) {
        return g >= 0 && g < gauges();
    }

    long difference(int one, int other) {
        if (!isGauge(one) || !isGauge(other) || groupOf(one) != groupOf(other)) {
            return Long.MIN_VALUE;
        }
        return groupOf(one).get(one).subtract(groupOf(one).get(other)).longValueExact();
    }

    int least(int g) {
        return Collections.min(groupOf(g).keySet());
    }

    long offset(int g) {
        return isGauge(g) ? difference(g, least(g)) : Long.MIN_VALUE;
    }

    List<Integer> order(int g) {
        List<Integer> members = new ArrayList<>(groupOf(g).keySet());
        members.sort((x, y) -> offset(x) != offset(y) ? Long.compare(offset(x), offset(y)) : x - y);
        return members;
    }

    long mean(int gauge) {
        double sum = 0.0;
        for (int g : groupOf(gauge).keySet()) {
            sum += offset(g);
        }
        return Double.doubleToLongBits(sum / groupOf(gauge).size());
    }

    int twos(long amount) {
        int twos = 0;
        for (int g = 0; g < gauges(); g++) {
            for (int h = g + 1; h < gauges(); h++) {
                if (groupOf(g) == groupOf(h) && (amount == -1 || Math.abs(difference(g, h)) == amount)) {
                    twos++;
                }
            }
        }
        return twos;
    }

    // ---- ways

    List<Integer> standing() {
        List<Integer> standing = new ArrayList<>();
        for (int s = 0; s < statements(); s++) {
            if (verdicts.get(s) <= 1) {
                standing.add(s);
            }
        }
        return standing;
    }

    private int across(int s, int gauge) {
        Said said = state.said.get(s);
        return said.first == gauge ? said.second : said.second == gauge ? said.first : -1;
    }

    /** The rows of each length, the first to each GAUGE, until the second one is met. */
    List<Integer> chain(int one, int other) {
        Map<Integer, List<Integer>> rows = new HashMap<>();
        rows.put(one, List.of());
        for (int length = 0; length < gauges(); length++) {
            if (rows.containsKey(other)) {
                return rows.get(other);
            }
            Map<Integer, List<Integer>> longer = new HashMap<>();
            rows.forEach((at, row) -> {
                for (int s : standing()) {
                    if (across(s, at) >= 0) {
                        List<Integer> next = new ArrayList<>(row);
                        next.add(s);
                        longer.merge(across(s, at), next, Model::firstOf);
                    }
                }
            });
            rows = longer;
        }
        return null;
    }

    private static List<Integer> firstOf(List<Integer> one, List<Integer> other) {
        for (int k = 0; k < one.size(); k++) {
            if (!one.get(k).equals(other.get(k))) {
                return one.get(k) < other.get(k) ? one : other;
            }
        }
        return one;
    }

    private List<Integer> side(int gauge, List<Integer> without) {
        List<Integer> side = new ArrayList<>(List.of(gauge));
        for (int n = 0; n < side.size(); n++) {
            for (int s : standing()) {
                int to = without.contains(s) ? -1 : across(s, side.get(n));
                if (to >= 0 && !side.contains(to)) {
                    side.add(to);
                }
            }
        }
        return side;
    }

    int rely(int s) {
        if (verdicts.get(s) > 1) {
            return 0;
        }
        List<Integer> first = side(state.said.get(s).first, List.of(s));
        List<Integer> second = side(state.said.get(s).second, List.of(s));
        return first.contains(state.said.get(s).second) ? 0 : first.size() * second.size();
    }

    List<Integer> cut(int s) {
        boolean few = groupOf(state.said.get(s).first).size() <= 13;
        return few ? cutByTrying(s) : cutByCounting(s);
    }

    /**
     * A GAUGE is left on the first one's side in the CUT that is asked for just if it takes more
     * to cut the first one off from both it and the second one.
     */
    private List<Integer> cutByCounting(int s) {
        Said said = state.said.get(s);
        int size = waysApart(said.first, List.of(said.second));
        List<Integer> side = new ArrayList<>(List.of(said.first));
        for (int g : groupOf(said.first).keySet()) {
            if (g != said.first && g != said.second
                && waysApart(said.first, List.of(said.second, g)) > size) {
                side.add(g);
            }
        }
        return between(side);
    }

    /** How many ways that share no STATEMENT lead from a GAUGE to any of the ends. */
    private int waysApart(int from, List<Integer> ends) {
        // Each STATEMENT in use, with the GAUGE that it is left from.
        Map<Integer, Integer> used = new HashMap<>();
        int ways = 0;
        while (oneWayMore(from, ends, used, new ArrayList<>())) {
            ways++;
        }
        return ways;
    }

    private boolean oneWayMore(int at, List<Integer> ends, Map<Integer, Integer> used, List<Integer> met) {
        if (ends.contains(at)) {
            return true;
        }
        met.add(at);
        for (int s : standing()) {
            int to = across(s, at);
            boolean free = to >= 0 && !met.contains(to) && (!used.containsKey(s) || used.get(s) == to);
            if (free && oneWayMore(to, ends, used, met)) {
                if (used.remove(s) == null) {
                    used.put(s, at);
                }
                return true;
            }
        }
        return false;
    }

    private List<Integer> between(List<Integer> side) {
        List<Integer> cut = new ArrayList<>();
        for (int t : standing()) {
            Said way = state.said.get(t);
            if (side.contains(way.first) != side.contains(way.second)) {
                cut.add(t);
            }
        }
        return cut;
    }

    /** Tries every side that the first GAUGE could be left on. */
    private List<Integer> cutByTrying(int s) {
        Said said = state.said.get(s);
        List<Integer> others = new ArrayList<>(groupOf(said.first).keySet());
        others.removeIf(g -> g == said.first || g == said.second);
        List<Integer> best = null;
        for (int set = 0; set < 1 << others.size(); set++) {
            List<Integer> side = new ArrayList<>(List.of(said.first));
            for (int n = 0; n < others.size(); n++) {
                if ((set >> n & 1) == 1) {
                    side.add(others.get(n));
                }
            }
            List<Integer> cut = between(side);
            if (best == null || cut.size() < best.size() || cut.size() == best.size()
                && side(said.first, cut).size() < side(said.first, best).size()) {
                best = cut;
            }
        }
        return best;
    }

    int[] blame() {
        int[] times = new int[121];
        for (int s = 0; s < statements(); s++) {
            if (verdicts.get(s) == 2) {
                for (int t : chain(state.said.get(s).first, state.said.get(s).second)) {
                    times[t]++;
                }
            }
        }
        int worst = 120;
        for (int s = 119; s >= 0; s--) {
            if (times[s] > 0 && times[s] >= times[worst]) {
                worst = s;
            }
        }
        return worst == 120 ? new int[] {-2, -2} : new int[] {worst, times[worst]};
    }

    int count(int what) {
        switch (what) {
            case 0: return gauges();
            case 1: return statements();
            case 7: return groups.size();
            case 8: return twos(-1);
            case 9: return (int) standing().stream().filter(s -> rely(s) > 0).count();
            case 10: return ahead.size();
            case 11: return tape.length();
            default: break;
        }
        return what < 0 || what > 11 ? -1 : Collections.frequency(verdicts, what - 2);
    }
}
