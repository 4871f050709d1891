import java.nio.charset.StandardCharsets;
import java.util.ArrayList;
import java.util.Arrays;
import java.util.Collections;
import java.util.HashMap;
import java.util.HashSet;
import java.util.LinkedHashMap;
import java.util.List;
import java.util.Map;
import java.util.Set;
import java.util.TreeMap;
import java.util.function.Predicate;
import java.util.function.ToLongFunction;

/** The document once more, written apart from the program in the slowest and plainest form. */
final class Oracle {
    static final int NONE = -1;
    private static final List<String> OWN = List.of("wish", "less", "more", "row", "knot", "tie", "thing", "rule",
            "or", "and", "not", "all", "has", "many", "of", "min", "max");

    private static final class Fault extends RuntimeException {
        final int kind;
        final int place;

        Fault(int kind, int place) {
            super(null, null, false, false);
            this.kind = kind;
            this.place = place;
        }
    }

    private static final class World {
        int statements;
        List<String> wishes = new ArrayList<>();
        List<Boolean> more = new ArrayList<>();
        List<String> rows = new ArrayList<>();
        List<int[]> prices = new ArrayList<>();
        List<int[]> spreads = new ArrayList<>();
        List<String> knots = new ArrayList<>();
        List<int[]> ties = new ArrayList<>();
        List<int[]> tieNumbers = new ArrayList<>();
        List<String> things = new ArrayList<>();
        List<int[]> thingNumbers = new ArrayList<>();
        List<Predicate<Integer>> rules = new ArrayList<>();

        boolean known(String name) {
            return wishes.contains(name) || rows.contains(name) || knots.contains(name) || things.contains(name);
        }
    }

    private record Item(int[] loss, long key, List<Integer> way) {
    }

    private static final class Parser {
        final String s;
        final World w = new World();
        int pos;
        int open;

        Parser(String s) {
            this.s = s;
        }

        char at(int i) {
            return i < s.length() ? s.charAt(i) : 0;
        }

        static boolean low(char c) {
            return c >= 'a' && c <= 'z';
        }

        static boolean dig(char c) {
            return c >= '0' && c <= '9';
        }

        void blanks() {
            while (pos < s.length() && (s.charAt(pos) == ' ' || s.charAt(pos) == '\n')) {
                pos++;
            }
        }

        /** The word, number or sign that comes next, without taking it; "" at the end. */
        String peek() {
            int before = pos;
            blanks();
            if (pos >= s.length()) {
                return "";
            }
            char c = s.charAt(pos);
            if ((low(c) || dig(c)) && pos > 0 && (low(s.charAt(pos - 1)) || dig(s.charAt(pos - 1)))) {
                throw new Fault(1, pos);
            }
            int e = pos + 1;
            if (low(c)) {
                while (e < s.length() && low(s.charAt(e))) {
                    e++;
                }
                if (e - pos > 6) {
                    throw new Fault(1, pos + 6);
                }
            } else if (dig(c)) {
                while (e < s.length() && dig(s.charAt(e))) {
                    e++;
                }
                if (e - pos > 4) {
                    throw new Fault(1, pos + 4);
                }
            }
            if (before > pos) {
                throw new IllegalStateException();
            }
            return s.substring(pos, e);
        }

        void skip(String token) {
            pos += token.length();
        }

        boolean accept(String token) {
            if (peek().equals(token)) {
                skip(token);
                return true;
            }
            return false;
        }

        void expect(String token) {
            if (!accept(token)) {
                throw new Fault(1, pos);
            }
        }

        String name() {
            String t = peek();
            if (t.isEmpty() || !low(t.charAt(0)) || OWN.contains(t)) {
                throw new Fault(1, pos);
            }
            return t;
        }

        String newName() {
            String t = name();
            if (w.known(t)) {
                throw new Fault(2, pos);
            }
            skip(t);
            return t;
        }

        int oldName(List<String> names) {
            String t = name();
            if (!names.contains(t)) {
                throw new Fault(3, pos);
            }
            skip(t);
            return names.indexOf(t);
        }

        int number() {
            String t = peek();
            if (t.isEmpty() || !dig(t.charAt(0))) {
                throw new Fault(1, pos);
            }
            skip(t);
            return Integer.parseInt(t);
        }

        World parse() {
            while (true) {
                String t = peek();
                if (t.isEmpty()) {
                    return w;
                }
                int place = pos;
                boolean behind = w.rows.size() + w.ties.size() + w.things.size() > 0;
                boolean without = w.wishes.isEmpty();
                switch (t) {
                    case "wish" -> start(t, w.wishes.size(), 4, behind, place);
                    case "row" -> start(t, w.rows.size(), 40, without, place);
                    case "knot" -> start(t, w.knots.size(), 10, false, place);
                    case "tie" -> start(t, w.ties.size(), 24, without, place);
                    case "thing" -> start(t, w.things.size(), 12, without, place);
                    case "rule" -> start(t, w.rules.size(), 12, false, place);
                    default -> throw new Fault(1, place);
                }
                expect(";");
                w.statements++;
            }
        }

        void start(String word, int there, int most, boolean misplaced, int place) {
            if (there == most) {
                throw new Fault(5, place);
            }
            if (misplaced) {
                throw new Fault(6, place);
            }
            skip(word);
            switch (word) {
                case "wish" -> {
                    String name = newName();
                    boolean more = accept("more");
                    if (!more) {
                        expect("less");
                    }
                    w.wishes.add(name);
                    w.more.add(more);
                }
                case "row" -> row();
                case "knot" -> w.knots.add(newName());
                case "tie" -> tie();
                case "thing" -> {
                    String name = newName();
                    int[] n = new int[w.wishes.size()];
                    for (int i = 0; i < n.length; i++) {
                        n[i] = number();
                    }
                    w.things.add(name);
                    w.thingNumbers.add(n);
                }
                default -> w.rules.add(test());
            }
        }

        void row() {
            String name = newName();
            int[] price = new int[w.wishes.size()];
            int[] spread = new int[w.wishes.size()];
            for (int i = 0; i < price.length; i++) {
                if (accept("?")) {
                    price[i] = NONE;
                } else {
                    price[i] = number();
                    if (accept("~")) {
                        spread[i] = number();
                    }
                }
            }
            w.rows.add(name);
            w.prices.add(price);
            w.spreads.add(spread);
        }

        void tie() {
            int from = oldName(w.knots);
            String t = name();
            if (w.knots.get(from).equals(t)) {
                throw new Fault(3, pos);
            }
            int to = oldName(w.knots);
            int[] n = new int[w.wishes.size()];
            for (int i = 0; i < n.length; i++) {
                n[i] = number();
            }
            w.ties.add(new int[] {from, to});
            w.tieNumbers.add(n);
        }

        void open(String bracket) {
            if (!peek().equals(bracket)) {
                throw new Fault(1, pos);
            }
            if (open == 8) {
                throw new Fault(5, pos);
            }
            open++;
            skip(bracket);
        }

        void close(String bracket) {
            expect(bracket);
            open--;
        }

        Predicate<Integer> test() {
            Predicate<Integer> left = both();
            while (accept("or")) {
                Predicate<Integer> a = left;
                Predicate<Integer> b = both();
                left = x -> a.test(x) || b.test(x);
            }
            return left;
        }

        Predicate<Integer> both() {
            Predicate<Integer> left = fact();
            while (accept("and")) {
                Predicate<Integer> a = left;
                Predicate<Integer> b = fact();
                left = x -> a.test(x) && b.test(x);
            }
            return left;
        }

        Predicate<Integer> fact() {
            if (accept("not")) {
                Predicate<Integer> a = fact();
                return x -> !a.test(x);
            }
            if (peek().equals("[")) {
                open("[");
                Predicate<Integer> a = test();
                close("]");
                return a;
            }
            if (accept("all")) {
                return x -> true;
            }
            if (accept("has")) {
                int thing = oldName(w.things);
                return x -> (x >> thing & 1) == 1;
            }
            ToLongFunction<Integer> a = sum();
            String sign = peek();
            if (!sign.equals("<") && !sign.equals(">") && !sign.equals("=")) {
                throw new Fault(1, pos);
            }
            skip(sign);
            ToLongFunction<Integer> b = sum();
            return x -> {
                int c = Long.compare(a.applyAsLong(x), b.applyAsLong(x));
                return sign.equals("<") ? c < 0 : sign.equals(">") ? c > 0 : c == 0;
            };
        }

        static long clip(long n) {
            return n > 1000000000L ? 1000000000L : n < -1000000000L ? -1000000000L : n;
        }

        ToLongFunction<Integer> sum() {
            ToLongFunction<Integer> left = product();
            while (true) {
                ToLongFunction<Integer> a = left;
                if (accept("+")) {
                    ToLongFunction<Integer> b = product();
                    left = x -> clip(a.applyAsLong(x) + b.applyAsLong(x));
                } else if (accept("-")) {
                    ToLongFunction<Integer> b = product();
                    left = x -> clip(a.applyAsLong(x) - b.applyAsLong(x));
                } else {
                    return left;
                }
            }
        }

        ToLongFunction<Integer> product() {
            ToLongFunction<Integer> left = part();
            while (true) {
                ToLongFunction<Integer> a = left;
                if (accept("*")) {
                    ToLongFunction<Integer> b = part();
                    left = x -> clip(a.applyAsLong(x) * b.applyAsLong(x));
                } else if (accept("/")) {
                    ToLongFunction<Integer> b = part();
                    left = x -> {
                        long d = b.applyAsLong(x);
                        return d == 0 ? 0 : Math.floorDiv(a.applyAsLong(x), d);
                    };
                } else {
                    return left;
                }
            }
        }

        ToLongFunction<Integer> part() {
            String t = peek();
            if (!t.isEmpty() && dig(t.charAt(0))) {
                long n = number();
                return x -> n;
            }
            if (accept("many")) {
                return x -> Integer.bitCount(x);
            }
            if (accept("of")) {
                int wish = oldName(w.wishes);
                return x -> {
                    long n = 0;
                    for (int i = 0; i < w.things.size(); i++) {
                        n += (x >> i & 1) * w.thingNumbers.get(i)[wish];
                    }
                    return n;
                };
            }
            if (t.equals("min") || t.equals("max")) {
                skip(t);
                open("(");
                ToLongFunction<Integer> a = sum();
                expect(",");
                ToLongFunction<Integer> b = sum();
                close(")");
                return t.equals("min") ? x -> Math.min(a.applyAsLong(x), b.applyAsLong(x))
                        : x -> Math.max(a.applyAsLong(x), b.applyAsLong(x));
            }
            open("(");
            ToLongFunction<Integer> a = sum();
            close(")");
            return a;
        }
    }

    private String tape = "";
    private World w = new World();
    private int fault;
    private int faultPlace = NONE;
    private int frontKind = NONE;
    private List<Item> front = new ArrayList<>();
    private List<Integer> kept = new ArrayList<>();
    private Set<Integer> fell = new HashSet<>();
    private Set<Integer> came = new HashSet<>();
    private int grid = 4;
    private List<int[]> said = new ArrayList<>();
    private final Map<Integer, int[]> weights = new TreeMap<>();
    private final Map<Integer, Set<Integer>> bars = new HashMap<>();

    int feed(int a, int b, int c, int d, int e) {
        if (tape.length() + 20 > 900) {
            return NONE;
        }
        StringBuilder t = new StringBuilder(tape);
        for (int n : new int[] {a, b, c, d, e}) {
            for (int i = 3; i >= 0; i--) {
                t.append((char) (n >> 8 * i & 255));
            }
        }
        tape = t.toString();
        return tape.length();
    }

    boolean end(int n) {
        if (n < 0 || n > tape.length()) {
            return false;
        }
        tape = tape.substring(0, n);
        return true;
    }

    int text(String text) {
        tape = text;
        return text();
    }

    int text() {
        String s = tape;
        tape = "";
        try {
            w = new Parser(s).parse();
        } catch (Fault f) {
            fault = f.kind;
            faultPlace = f.place;
            return NONE;
        }
        fault = 0;
        faultPlace = NONE;
        frontKind = NONE;
        front = new ArrayList<>();
        kept = new ArrayList<>();
        fell = new HashSet<>();
        came = new HashSet<>();
        said = new ArrayList<>();
        weights.clear();
        bars.clear();
        return w.statements;
    }

    int fault(int what) {
        return what == 0 ? fault : what == 1 ? faultPlace : NONE;
    }

    int has(int what) {
        return switch (what) {
            case 0 -> w.wishes.size();
            case 1 -> w.rows.size();
            case 2 -> w.knots.size();
            case 3 -> w.ties.size();
            case 4 -> w.things.size();
            case 5 -> w.rules.size();
            case 6 -> said.size();
            case 7 -> grid;
            default -> NONE;
        };
    }

    int letter(int kind, int which, int k) {
        List<List<String>> all = List.of(w.wishes, w.rows, w.knots, w.things);
        if (kind < 0 || kind > 3 || which < 0 || which >= all.get(kind).size()) {
            return NONE;
        }
        String name = all.get(kind).get(which);
        return k < 0 || k >= name.length() ? NONE : name.charAt(k);
    }

    private boolean row(int r) {
        return r >= 0 && r < w.rows.size();
    }

    private boolean wish(int i) {
        return i >= 0 && i < w.wishes.size();
    }

    private boolean aside(int r) {
        return Arrays.stream(w.prices.get(r)).anyMatch(n -> n == NONE);
    }

    private int[] losses(int[] has) {
        int[] l = has.clone();
        for (int i = 0; i < l.length; i++) {
            l[i] = w.more.get(i) ? 0 - l[i] : l[i];
        }
        return l;
    }

    private int[] loss(int r) {
        return losses(w.prices.get(r));
    }

    private static boolean better(int[] a, int[] b) {
        boolean less = false;
        for (int i = 0; i < a.length; i++) {
            if (a[i] > b[i]) {
                return false;
            }
            if (a[i] < b[i]) {
                less = true;
            }
        }
        return less;
    }

    private boolean rowBeats(int a, int b) {
        return !aside(a) && !aside(b) && better(loss(a), loss(b));
    }

    int price(int r, int i, boolean spread) {
        if (!row(r) || !wish(i) || w.prices.get(r)[i] == NONE) {
            return NONE;
        }
        return spread ? w.spreads.get(r)[i] : w.prices.get(r)[i];
    }

    int beats(int a, int b) {
        return !row(a) || !row(b) ? NONE : rowBeats(a, b) ? 1 : 0;
    }

    private List<Integer> best() {
        List<Integer> l = new ArrayList<>();
        for (int r = 0; r < w.rows.size(); r++) {
            boolean beaten = aside(r);
            for (int o = 0; o < w.rows.size(); o++) {
                beaten |= rowBeats(o, r);
            }
            if (!beaten) {
                l.add(r);
            }
        }
        return l;
    }

    private static long bits(Iterable<Integer> rows) {
        long n = 0;
        for (int r : rows) {
            n |= 1L << r;
        }
        return n;
    }

    int leads(int r) {
        if (row(r)) {
            for (int b : best()) {
                if (rowBeats(b, r)) {
                    return b;
                }
            }
        }
        return NONE;
    }

    int change(int r, int i, int n) {
        if (!row(r) || !wish(i) || n < -1 || n > 9999) {
            return NONE;
        }
        List<Integer> before = best();
        w.prices.get(r)[i] = n;
        if (n == NONE) {
            w.spreads.get(r)[i] = 0;
        }
        fell = new HashSet<>(before);
        fell.removeAll(best());
        came = new HashSet<>(best());
        came.removeAll(before);
        return fell.size() + came.size();
    }

    long changed(boolean c) {
        return bits(c ? came : fell);
    }

    long rows() {
        return bits(best());
    }

    /** Tries each pair of ends of what two ROWS may have of each WISH. */
    private int howSure(int a, int b) {
        int n = w.wishes.size();
        boolean always = true;
        boolean ever = false;
        for (int m = 0; m < 1 << 2 * n; m++) {
            int[] x = new int[n];
            int[] y = new int[n];
            for (int i = 0; i < n; i++) {
                int s = w.spreads.get(a)[i];
                int t = w.spreads.get(b)[i];
                x[i] = w.prices.get(a)[i] + ((m >> 2 * i & 1) == 1 ? s : -s);
                y[i] = w.prices.get(b)[i] + ((m >> 2 * i + 1 & 1) == 1 ? t : -t);
            }
            boolean beats = better(losses(x), losses(y));
            always &= beats;
            ever |= beats;
        }
        return always ? 2 : ever ? 1 : 0;
    }

    long unsure(boolean sure) {
        List<Integer> l = new ArrayList<>();
        for (int r = 0; r < w.rows.size(); r++) {
            boolean out = aside(r);
            for (int o = 0; o < w.rows.size() && !out; o++) {
                out = o != r && !aside(o) && howSure(o, r) >= (sure ? 1 : 2);
            }
            if (!out) {
                l.add(r);
            }
        }
        return bits(l);
    }

    int maybe(int a, int b) {
        return !row(a) || !row(b) || a == b || aside(a) || aside(b) ? NONE : howSure(a, b);
    }

    private static int byRows(List<Integer> a, List<Integer> b) {
        for (int i = 0; i < a.size() && i < b.size(); i++) {
            if (!a.get(i).equals(b.get(i))) {
                return a.get(i) - b.get(i);
            }
        }
        return a.size() - b.size();
    }

    private void ways(int to, List<Integer> way, int[] sum, Map<List<Integer>, List<Integer>> firsts) {
        int last = way.get(way.size() - 1);
        if (last == to) {
            List<Integer> key = new ArrayList<>();
            for (int n : losses(sum)) {
                key.add(n);
            }
            List<Integer> there = firsts.get(key);
            if (there == null || byRows(way, there) < 0) {
                firsts.put(key, way);
            }
            return;
        }
        for (int t = 0; t < w.ties.size(); t++) {
            if (w.ties.get(t)[0] == last && !way.contains(w.ties.get(t)[1])) {
                List<Integer> longer = new ArrayList<>(way);
                longer.add(w.ties.get(t)[1]);
                int[] more = sum.clone();
                for (int i = 0; i < more.length; i++) {
                    more[i] += w.tieNumbers.get(t)[i];
                }
                ways(to, longer, more, firsts);
            }
        }
    }

    private static int[] array(List<Integer> l) {
        return l.stream().mapToInt(n -> n).toArray();
    }

    /** Of all rows of LOSSES those that nothing beats, in their order; null if they are too many. */
    private static List<List<Integer>> sift(Set<List<Integer>> all) {
        List<List<Integer>> l = new ArrayList<>(all);
        l.sort(Oracle::byRows);
        List<List<Integer>> best = new ArrayList<>();
        List<int[]> arrays = new ArrayList<>();
        for (List<Integer> a : l) {
            arrays.add(array(a));
        }
        for (int i = 0; i < arrays.size(); i++) {
            boolean beaten = false;
            for (int j = 0; j < arrays.size() && !beaten; j++) {
                beaten = better(arrays.get(j), arrays.get(i));
            }
            if (!beaten) {
                best.add(l.get(i));
            }
        }
        return best.size() > 100 ? null : best;
    }

    int front(int what, int from, int to) {
        if (w.wishes.isEmpty() || what < 0 || what > 2) {
            return NONE;
        }
        List<Item> made = new ArrayList<>();
        if (what == 0) {
            for (int r : best()) {
                made.add(new Item(loss(r), r, List.of()));
            }
        } else if (what == 1) {
            int n = w.knots.size();
            if (from < 0 || to < 0 || from >= n || to >= n || from == to) {
                return NONE;
            }
            Map<List<Integer>, List<Integer>> firsts = new HashMap<>();
            ways(to, List.of(from), new int[w.wishes.size()], firsts);
            List<List<Integer>> best = sift(firsts.keySet());
            if (best == null) {
                return -2;
            }
            for (List<Integer> l : best) {
                made.add(new Item(array(l), firsts.get(l).size(), firsts.get(l)));
            }
        } else {
            Map<List<Integer>, Integer> firsts = new LinkedHashMap<>();
            for (int set = 0; set < 1 << w.things.size(); set++) {
                int s = set;
                if (w.rules.stream().allMatch(r -> r.test(s))) {
                    int[] sum = new int[w.wishes.size()];
                    for (int t = 0; t < w.things.size(); t++) {
                        for (int i = 0; i < sum.length; i++) {
                            sum[i] += (set >> t & 1) * w.thingNumbers.get(t)[i];
                        }
                    }
                    List<Integer> key = new ArrayList<>();
                    for (int n : losses(sum)) {
                        key.add(n);
                    }
                    firsts.putIfAbsent(key, set);
                }
            }
            List<List<Integer>> best = sift(firsts.keySet());
            if (best == null) {
                return -2;
            }
            for (List<Integer> l : best) {
                made.add(new Item(array(l), firsts.get(l), List.of()));
            }
        }
        frontKind = what;
        front = made;
        return made.size();
    }

    private boolean there(int k) {
        return k >= 0 && k < front.size();
    }

    int loss(int k, int i) {
        return there(k) && wish(i) ? front.get(k).loss[i] : -2000000000;
    }

    int who(int k) {
        return there(k) ? (int) front.get(k).key : NONE;
    }

    int knot(int k, int i) {
        return there(k) && i >= 0 && i < front.get(k).way.size() ? front.get(k).way.get(i) : NONE;
    }

    boolean grid(int g) {
        if (g < 1 || g > 12) {
            return false;
        }
        grid = g;
        return true;
    }

    private static final Map<Integer, List<int[]>> WEIGHINGS = new HashMap<>();

    private List<int[]> weighings() {
        return new ArrayList<>(WEIGHINGS.computeIfAbsent(w.wishes.size() * 100 + grid, k -> weighings(k / 100, k % 100)));
    }

    /** All rows of numbers 0 .. GRID in their order, of which those with another sum are left out. */
    private static List<int[]> weighings(int n, int grid) {
        List<int[]> l = new ArrayList<>();
        long most = n == 0 ? 0 : Math.round(Math.pow(grid + 1, n));
        for (long code = 0; code < most; code++) {
            int[] row = new int[n];
            long rest = code;
            for (int i = n - 1; i >= 0; i--) {
                row[i] = (int) (rest % (grid + 1));
                rest /= grid + 1;
            }
            if (Arrays.stream(row).sum() == grid) {
                l.add(row);
            }
        }
        return l;
    }

    private static long worth(int[] weights, int[] loss) {
        long n = 0;
        for (int i = 0; i < loss.length; i++) {
            n += (long) weights[i] * loss[i];
        }
        return n;
    }

    private boolean first(int[] by, int k) {
        return front.stream().allMatch(o -> worth(by, o.loss) >= worth(by, front.get(k).loss));
    }

    int corner(int k) {
        return there(k) ? (int) weighings().stream().filter(by -> first(by, k)).count() : NONE;
    }

    int weight(int k, int i) {
        if (there(k) && wish(i)) {
            for (int[] by : weighings()) {
                if (first(by, k)) {
                    return by[i];
                }
            }
        }
        return NONE;
    }

    private static boolean standsFor(int[] a, int[] b, int d) {
        for (int i = 0; i < a.length; i++) {
            if (a[i] > b[i] + d) {
                return false;
            }
        }
        return true;
    }

    private boolean allStoodFor(List<Integer> some, int d) {
        return front.stream().allMatch(b -> some.stream().anyMatch(a -> standsFor(front.get(a).loss, b.loss, d)));
    }

    /** All rows of k numbers below n, each greater than the one ahead, in their order. */
    private static List<List<Integer>> choices(int n, int k) {
        List<List<Integer>> l = new ArrayList<>();
        choices(n, k, new ArrayList<>(), l);
        return l;
    }

    private static void choices(int n, int k, List<Integer> ahead, List<List<Integer>> l) {
        if (ahead.size() == k) {
            l.add(ahead);
            return;
        }
        for (int i = ahead.isEmpty() ? 0 : ahead.get(ahead.size() - 1) + 1; i < n; i++) {
            List<Integer> longer = new ArrayList<>(ahead);
            longer.add(i);
            choices(n, k, longer, l);
        }
    }

    int near(int d) {
        if (d < 0 || d > 9999 || frontKind == NONE || front.size() > 16) {
            return NONE;
        }
        for (int size = 0;; size++) {
            for (List<Integer> some : choices(front.size(), size)) {
                if (allStoodFor(some, d)) {
                    kept = some;
                    return size;
                }
            }
        }
    }

    int standIns(int k) {
        if (k < 1 || k > 4 || frontKind == NONE || front.size() > 24 || k > front.size()) {
            return NONE;
        }
        List<List<Integer>> all = choices(front.size(), k);
        int low = -1;
        int high = 1000000;
        // That some stand for all with D, they do with a greater one.
        while (high - low > 1) {
            int d = (low + high) / 2;
            if (all.stream().anyMatch(some -> allStoodFor(some, d))) {
                high = d;
            } else {
                low = d;
            }
        }
        int d = high;
        kept = all.stream().filter(some -> allStoodFor(some, d)).findFirst().get();
        return d;
    }

    int kept(int i) {
        return i >= 0 && i < kept.size() ? kept.get(i) : NONE;
    }

    int cost(int k, int i, int j, boolean above) {
        if (!there(k) || !wish(i) || !wish(j) || i == j) {
            return NONE;
        }
        List<long[]> all = new ArrayList<>();
        int[] own = front.get(k).loss;
        for (Item o : front) {
            if (o.loss[i] < own[i] && o.loss[j] > own[j]) {
                all.add(new long[] {o.loss[j] - own[j], own[i] - o.loss[i]});
            }
        }
        if (all.isEmpty()) {
            return NONE;
        }
        long[] least = Collections.min(all, (a, b) -> Long.compare(a[0] * b[1], b[0] * a[1]));
        for (long g = least[0]; g > 0; g--) {
            if (least[0] % g == 0 && least[1] % g == 0) {
                return (int) (least[above ? 0 : 1] / g);
            }
        }
        return NONE;
    }

    int hole(int i) {
        if (frontKind == NONE || !wish(i)) {
            return NONE;
        }
        int[] l = front.stream().mapToInt(o -> o.loss[i]).sorted().toArray();
        int most = 0;
        for (int k = 1; k < l.length; k++) {
            most = Math.max(most, l[k] - l[k - 1]);
        }
        return most;
    }

    int rather(int a, int b) {
        if (!row(a) || !row(b) || aside(a) || aside(b) || a == b || said.size() == 12) {
            return NONE;
        }
        said.add(new int[] {a, b});
        return said.size();
    }

    int unsay() {
        if (said.isEmpty()) {
            return NONE;
        }
        said.remove(said.size() - 1);
        return said.size();
    }

    private boolean agrees(int[] by, int[] saying) {
        return aside(saying[0]) || aside(saying[1]) || worth(by, loss(saying[0])) <= worth(by, loss(saying[1]));
    }

    private List<int[]> agreeing(List<int[]> sayings) {
        List<int[]> l = weighings();
        l.removeIf(by -> !sayings.stream().allMatch(s -> agrees(by, s)));
        return l;
    }

    int agree() {
        return w.wishes.isEmpty() ? NONE : agreeing(said).size();
    }

    private Set<Integer> could(List<int[]> sayings) {
        Set<Integer> l = new HashSet<>();
        List<Integer> best = best();
        for (int[] by : agreeing(sayings)) {
            long least = best.stream().mapToLong(r -> worth(by, loss(r))).min().orElse(0);
            best.stream().filter(r -> worth(by, loss(r)) == least).forEach(l::add);
        }
        return l;
    }

    long could() {
        return bits(could(said));
    }

    int question(int what) {
        if (what < 0 || what > 2) {
            return NONE;
        }
        int[] least = {NONE, NONE, NONE};
        List<Integer> best = best();
        for (int a : best) {
            for (int b : best) {
                if (a < b) {
                    List<int[]> one = new ArrayList<>(said);
                    one.add(new int[] {a, b});
                    List<int[]> other = new ArrayList<>(said);
                    other.add(new int[] {b, a});
                    int n = Math.max(could(one).size(), could(other).size());
                    if (least[2] == NONE || n < least[2]) {
                        least = new int[] {a, b, n};
                    }
                }
            }
        }
        return least[what];
    }

    int quarrel() {
        if (w.wishes.isEmpty()) {
            return 0;
        }
        List<int[]> all = weighings();
        for (int size = 1; size <= said.size(); size++) {
            for (List<Integer> some : choices(said.size(), size)) {
                if (all.stream().noneMatch(by -> some.stream().allMatch(s -> agrees(by, said.get(s))))) {
                    return (int) bits(some);
                }
            }
        }
        return 0;
    }

    int stop(int d) {
        List<int[]> all = agreeing(said);
        if (d < 0 || d > 9999 || all.isEmpty()) {
            return NONE;
        }
        List<Integer> best = best();
        for (int r : best) {
            boolean holds = true;
            for (int[] by : all) {
                long least = best.stream().mapToLong(o -> worth(by, loss(o))).min().getAsLong();
                holds &= worth(by, loss(r)) <= least + (long) d * grid;
            }
            if (holds) {
                return r;
            }
        }
        return NONE;
    }

    boolean person(int p, int a, int b, int c, int d) {
        int[] all = {a, b, c, d};
        for (int i = 0; i < 4; i++) {
            if (all[i] < 0 || all[i] > 9 || all[i] > 0 && !wish(i)) {
                return false;
            }
        }
        if (p < 0 || p > 5) {
            return false;
        }
        if (a + b + c + d == 0) {
            weights.remove(p);
        } else {
            weights.put(p, all);
        }
        return true;
    }

    boolean bar(int p, int r, boolean on) {
        if (p < 0 || p > 5 || !row(r)) {
            return false;
        }
        Set<Integer> s = bars.computeIfAbsent(p, q -> new HashSet<>());
        if (on) {
            s.add(r);
        } else {
            s.remove(r);
        }
        return true;
    }

    private List<Integer> goes() {
        List<Integer> l = best();
        for (Set<Integer> s : bars.values()) {
            l.removeAll(s);
        }
        return l;
    }

    private List<Integer> order(int p, List<Integer> among) {
        List<Integer> l = new ArrayList<>(among);
        Collections.sort(l);
        l.sort((a, b) -> Long.compare(worth(weights.get(p), loss(a)), worth(weights.get(p), loss(b))));
        return l;
    }

    private boolean ahead(int a, int b, List<Integer> among) {
        long n = weights.keySet().stream().filter(p -> order(p, among).indexOf(a) < order(p, among).indexOf(b)).count();
        return 2 * n > weights.size();
    }

    private int pick(int rule, List<Integer> among) {
        if (rule < 0 || rule > 3 || weights.isEmpty() || among.isEmpty()) {
            return NONE;
        }
        if (rule == 3) {
            for (int a : among) {
                if (among.stream().allMatch(b -> b == a || ahead(a, b, among))) {
                    return a;
                }
            }
            return NONE;
        }
        int picked = NONE;
        long least = Long.MAX_VALUE;
        for (int a : among) {
            int[] places = weights.keySet().stream().mapToInt(p -> order(p, among).indexOf(a)).toArray();
            long n = rule == 0 ? -Arrays.stream(places).filter(q -> q == 0).count()
                    : rule == 1 ? Arrays.stream(places).sum() : Arrays.stream(places).max().getAsInt();
            if (n < least) {
                least = n;
                picked = a;
            }
        }
        return picked;
    }

    int choose(int rule) {
        return pick(rule, goes());
    }

    int breaks(int rule) {
        List<Integer> l = goes();
        int chosen = pick(rule, l);
        if (chosen == NONE) {
            return NONE;
        }
        int three = pick(3, l);
        int n = three != NONE && three != chosen ? 1 : 0;
        if (l.size() > 1 && l.stream().allMatch(b -> b == chosen || ahead(b, chosen, l))) {
            n += 2;
        }
        List<Integer> firsts = new ArrayList<>(l);
        firsts.removeIf(r -> weights.keySet().stream().noneMatch(p -> order(p, l).get(0).equals(r)));
        return pick(rule, firsts) == chosen ? n : n + 4;
    }

    int place(int p, int r) {
        return !weights.containsKey(p) || !goes().contains(r) ? NONE : order(p, goes()).indexOf(r);
    }

    static byte[] latin(String s) {
        return s.getBytes(StandardCharsets.ISO_8859_1);
    }
}
