import java.util.ArrayList;
import java.util.List;
import java.util.Random;

/** Many runs of calls drawn from fixed seeds, each answer against the Oracle's. */
public final class RandomTest {
    private static final String NAMES = "abcdefghijklmnpqrstuvxyz";
    private static final int MOST_CALLS = 512;

    private final Random random;
    private final StringBuilder told = new StringBuilder();
    private UnbeatenHouse x = new UnbeatenHouse();
    private Oracle y = new Oracle();
    private int calls = 0;
    private int wishes;
    private int rows;
    private int knots;
    private int things;

    private RandomTest(long seed) {
        random = new Random(seed);
    }

    public static void main(String[] args) {
        int runs = args.length > 0 ? Integer.parseInt(args[0]) : 400;
        long from = args.length > 1 ? Long.parseLong(args[1]) : 1;
        for (long seed = from; seed < from + runs && Check.wrongSoFar() < 20; seed++) {
            new RandomTest(seed).run(seed);
        }
        Check.finish("RandomTest");
    }

    private int below(int n) {
        return random.nextInt(n);
    }

    private boolean once(int in) {
        return random.nextInt(in) == 0;
    }

    private void run(long seed) {
        told.append("seed ").append(seed);
        while (calls < MOST_CALLS - 60) {
            feedText(once(4) ? spoiled(anyText()) : anyText());
            int many = 20 + below(150);
            for (int i = 0; i < many && calls < MOST_CALLS - 5; i++) {
                anyCall();
            }
        }
    }

    private void feedText(String text) {
        String cut = text.length() > 900 ? text.substring(0, 900) : text;
        byte[] bytes = Oracle.latin(cut);
        int[] n = Check.fives(bytes);
        for (int i = 0; i < n.length; i += 5) {
            due("feed", x.feed(n[i], n[i + 1], n[i + 2], n[i + 3], n[i + 4]),
                    y.feed(n[i], n[i + 1], n[i + 2], n[i + 3], n[i + 4]));
        }
        due("end", x.end(bytes.length) ? 1 : 0, y.end(bytes.length) ? 1 : 0);
        due("text of «" + cut + "»", x.text(), y.text());
        due("fault", x.fault(0), y.fault(0));
        due("fault place in «" + cut + "»", x.fault(1), y.fault(1));
        FirstFaultTest.holds(cut);
        for (int i = -1; i < 9; i++) {
            due("has " + i, x.has(i), y.has(i));
        }
    }

    private void due(String what, long got, long want) {
        calls++;
        Check.due(told.toString().substring(0, Math.min(20, told.length())) + ": " + what, got, want);
    }

    // ---- texts

    private String anyText() {
        StringBuilder t = new StringBuilder();
        wishes = once(12) ? 0 : 1 + below(4);
        int range = new int[] {3, 8, 30, 1000, 9999}[below(5)];
        for (int i = 0; i < wishes; i++) {
            t.append("wish ").append((char) ('a' + i)).append(once(2) ? " less;" : " more;");
        }
        rows = 0;
        knots = 0;
        things = 0;
        int what = below(5);
        if (what == 0 || what == 3) {
            addRows(t, range);
        }
        if (what == 1 || what == 3) {
            addNet(t, range);
        }
        if (what == 2 || what == 4) {
            addThings(t, range);
        }
        if (what == 4) {
            addRows(t, range);
        }
        return t.toString();
    }

    private String name(String kind, int i) {
        return kind + NAMES.charAt(i % NAMES.length()) + (i >= NAMES.length() ? "z" : "");
    }

    private void addRows(StringBuilder t, int range) {
        int most = wishes == 0 ? (once(3) ? 1 : 0) : once(3) ? 41 : 12;
        rows = below(most + 1);
        boolean sum = once(2);
        for (int i = 0; i < rows; i++) {
            t.append("row ").append(name("r", i));
            int left = range;
            for (int w = 0; w < wishes; w++) {
                int n = sum ? below(left + 1) : below(range + 1);
                left = Math.max(1, left - n / 2);
                t.append(' ').append(once(40) ? "?" : String.valueOf(n));
                if (once(5) && t.charAt(t.length() - 1) != '?') {
                    t.append('~').append(below(range / 2 + 1));
                }
            }
            t.append(once(3) ? " ;\n" : ";");
        }
    }

    private void addNet(StringBuilder t, int range) {
        knots = once(10) ? 11 : 2 + below(9);
        for (int i = 0; i < knots; i++) {
            t.append("knot ").append(name("k", i)).append(';');
        }
        int ties = wishes == 0 ? below(2) : once(20) ? 25 : below(25);
        boolean chain = once(2);
        for (int i = 0; i < ties; i++) {
            int a = chain ? i / 3 % (knots - 1) : below(knots);
            int b = chain ? a + 1 : below(knots);
            if (a == b) {
                b = (a + 1) % knots;
            }
            t.append("tie ").append(name("k", a)).append(' ').append(name("k", b));
            for (int w = 0; w < wishes; w++) {
                t.append(' ').append(below(range + 1));
            }
            t.append(';');
        }
    }

    private void addThings(StringBuilder t, int range) {
        things = wishes == 0 ? below(2) : once(3) ? below(14) : 1 + below(7);
        for (int i = 0; i < things; i++) {
            t.append("thing ").append(name("t", i));
            for (int w = 0; w < wishes; w++) {
                t.append(' ').append(below(range + 1));
            }
            t.append(';');
        }
        int rules = once(15) ? 13 : below(4);
        for (int i = 0; i < rules; i++) {
            t.append("rule ").append(test(rules > 4 ? 0 : 3, range)).append(';');
        }
    }

    private String test(int depth, int range) {
        if (depth == 0 || once(3)) {
            return fact(depth, range);
        }
        return switch (below(4)) {
            case 0 -> test(depth - 1, range) + " or " + test(depth - 1, range);
            case 1 -> test(depth - 1, range) + " and " + test(depth - 1, range);
            case 2 -> "[" + test(depth - 1, range) + "]";
            default -> "not " + fact(depth - 1, range);
        };
    }

    private String fact(int depth, int range) {
        int k = below(8);
        if (k == 0) {
            return "all";
        }
        if (k < 3 && things > 0) {
            return "has " + name("t", below(things + (once(20) ? 1 : 0)));
        }
        return sum(depth, range) + (once(2) ? " " : "") + "<>=".charAt(below(3)) + sum(depth, range);
    }

    private String sum(int depth, int range) {
        if (depth <= 0 || once(3)) {
            int k = below(4);
            if (k == 0) {
                return "many";
            }
            return k == 1 && wishes > 0 ? "of " + (char) ('a' + below(wishes)) : String.valueOf(below(range + 1));
        }
        int d = depth - 1;
        return switch (below(7)) {
            case 0 -> sum(d, range) + "+" + sum(d, range);
            case 1 -> sum(d, range) + "-" + sum(d, range);
            case 2 -> sum(d, range) + "*" + sum(d, range);
            case 3 -> sum(d, range) + " / " + sum(d, range);
            case 4 -> "(" + sum(d, range) + ")";
            case 5 -> "min(" + sum(d, range) + "," + sum(d, range) + ")";
            default -> "max (" + sum(d, range) + " ,\n" + sum(d, range) + " )";
        };
    }

    private String spoiled(String text) {
        StringBuilder t = new StringBuilder(text);
        String some = "abcdefgrowz0123456789;;;~?<>=+-*/()[],,  \n\tA\u00e9";
        int many = 1 + below(3);
        for (int i = 0; i < many && t.length() > 0; i++) {
            int at = below(t.length());
            switch (below(8)) {
                case 6, 7 -> putToken(t, at);
                case 0 -> t.deleteCharAt(at);
                case 1 -> t.insert(at, some.charAt(below(some.length())));
                case 2 -> t.setCharAt(at, some.charAt(below(some.length())));
                case 3 -> t.setLength(at);
                case 4 -> t.insert(at, statement());
                default -> swapWords(t);
            }
        }
        return t.toString();
    }

    private String statement() {
        List<String> l = List.of("wish z less;", "wish wish less;", "row q;", "row ra 1 2;", "tie ka ka;", "knot ra;",
                "thing q 1;", "rule all;", "rule many<((((((((1))))))));", "rule [[[[[[[[(1)=1]]]]]]]];",
                "rule not not all;", "abcdefg", "12345", "rule has ra;", "rule of ta=1;", "rule min(1,2)<3;", "knot many;");
        return l.get(below(l.size()));
    }

    /** Puts a token in the place of one, or ahead of it. */
    private void putToken(StringBuilder t, int about) {
        List<String> l = List.of("wish", "row", "knot", "tie", "thing", "rule", "less", "more", "or", "and", "not", "all",
                "has", "many", "of", "min", "max", "a", "b", "ra", "ka", "kb", "ta", "tb", "zz", "7", "0", "1234", "(", ")",
                "[", "]", "<", ">", "=", "+", "-", "*", "/", ",", ";", "~", "?", "abcdefg", "12345", "5ab", "5abcdefg", "a5", "a12345",
                "abcdefg12345", "12345abcdefg", "5and67890", "not12345");
        int from = about;
        while (from > 0 && Character.isLetterOrDigit(t.charAt(from - 1))) {
            from--;
        }
        int to = from;
        while (once(2) && to < t.length() && Character.isLetterOrDigit(t.charAt(to))) {
            to++;
        }
        t.replace(from, to, l.get(below(l.size())) + (once(4) ? "" : " "));
    }

    private void swapWords(StringBuilder t) {
        String[] words = t.toString().split(" ");
        if (words.length > 2) {
            int a = below(words.length);
            int b = below(words.length);
            String s = words[a];
            words[a] = words[b];
            words[b] = s;
            t.setLength(0);
            t.append(String.join(" ", words));
        }
    }

    // ---- calls

    /** Mostly one that is there, now and then one that is not. */
    private int about(int n) {
        if (once(25)) {
            return new int[] {-1, n, n + 1, Integer.MIN_VALUE, Integer.MAX_VALUE, 40, 64, 100}[below(8)];
        }
        return n <= 0 ? 0 : below(n);
    }

    private final List<Integer> lately = new ArrayList<>();

    private void anyCall() {
        int k = once(2) || lately.isEmpty() ? below(34) : lately.get(below(lately.size()));
        if (once(3)) {
            lately.add(k);
        }
        if (k < 9) {
            callRows(k);
        } else if (k < 21) {
            callFronts(k);
        } else if (k < 28) {
            callSayings(k);
        } else {
            callPeople(k);
        }
    }

    private void callRows(int k) {
        int a = about(rows);
        int b = about(rows);
        int w = about(wishes);
        boolean on = once(2);
        switch (k) {
            case 0 -> {
                int l = below(8) - 1;
                int kind = below(6) - 1;
                int which = about(12);
                due("letter", x.letter(kind, which, l), y.letter(kind, which, l));
            }
            case 1 -> due("price " + a + " " + w, x.price(a, w, on), y.price(a, w, on));
            case 2 -> due("beats " + a + " " + b, x.beats(a, b), y.beats(a, b));
            case 3 -> due("leads " + a, x.leads(a), y.leads(a));
            case 4 -> {
                int n = once(6) ? -1 : once(10) ? 10000 + below(2) : once(10) ? -2 : below(12);
                due("change " + a + " " + w + " " + n, x.change(a, w, n), y.change(a, w, n));
                due("changed", x.changed(true), y.changed(true));
                due("changed", x.changed(false), y.changed(false));
            }
            case 5 -> due("rows", x.rows(), y.rows());
            case 6 -> due("unsure " + on, x.unsure(on), y.unsure(on));
            default -> due("maybe " + a + " " + b, x.maybe(a, b), y.maybe(a, b));
        }
    }

    private void callFronts(int k) {
        int which = about(Math.max(1, Math.min(y.who(30) >= 0 ? 100 : 12, 100)));
        int w = about(wishes);
        int v = about(wishes);
        boolean on = once(2);
        switch (k) {
            case 9, 10 -> {
                int what = once(20) ? 3 : once(20) ? -1 : rows > 0 && once(2) ? 0 : knots > 0 ? 1 : 2;
                int from = once(2) ? 0 : about(knots);
                int to = once(2) ? knots - 1 : about(knots);
                due("front " + what + " " + from + " " + to, x.front(what, from, to), y.front(what, from, to));
            }
            case 11 -> due("loss " + which, x.loss(which, w), y.loss(which, w));
            case 12 -> due("who " + which, x.who(which), y.who(which));
            case 13 -> {
                int i = about(6);
                due("knot " + which + " " + i, x.knot(which, i), y.knot(which, i));
            }
            case 14 -> {
                int g = 1 + about(12);
                due("grid " + g, x.grid(g) ? 1 : 0, y.grid(g) ? 1 : 0);
            }
            case 15 -> due("corner " + which, x.corner(which), y.corner(which));
            case 16 -> due("weight " + which + " " + w, x.weight(which, w), y.weight(which, w));
            case 17 -> {
                int d = once(3) ? below(4) : once(20) ? about(10000) : below(500);
                due("near " + d, x.near(d), y.near(d));
                keptToo();
            }
            case 18 -> {
                int i = 1 + about(4);
                due("standIns " + i, x.standIns(i), y.standIns(i));
                keptToo();
            }
            case 19 -> due("cost " + which + " " + w + " " + v, x.cost(which, w, v, on), y.cost(which, w, v, on));
            default -> due("hole " + w, x.hole(w), y.hole(w));
        }
    }

    private void keptToo() {
        int i = about(4);
        due("kept " + i, x.kept(i), y.kept(i));
        due("kept 0", x.kept(0), y.kept(0));
    }

    private void callSayings(int k) {
        int a = about(rows);
        int b = about(rows);
        switch (k) {
            case 21 -> due("rather " + a + " " + b, x.rather(a, b), y.rather(a, b));
            case 22 -> {
                if (once(2)) {
                    due("unsay", x.unsay(), y.unsay());
                }
            }
            case 23 -> due("agree", x.agree(), y.agree());
            case 24 -> due("could", x.could(), y.could());
            case 25 -> {
                int what = about(3);
                if (Long.bitCount(y.rows()) < 9 || once(5)) {
                    due("question " + what, x.question(what), y.question(what));
                }
            }
            case 26 -> due("quarrel", x.quarrel(), y.quarrel());
            default -> {
                int d = once(3) ? below(4) : once(20) ? about(10000) : below(500);
                due("stop " + d, x.stop(d), y.stop(d));
            }
        }
    }

    private void callPeople(int k) {
        int p = about(6);
        int r = about(rows);
        boolean on = once(2);
        int rule = about(4);
        switch (k) {
            case 28, 29 -> {
                int[] n = new int[4];
                for (int i = 0; i < 4; i++) {
                    n[i] = i < wishes && !once(4) ? below(10) : once(30) ? new int[] {-1, 1, 10}[below(3)] : 0;
                }
                due("person " + p, x.person(p, n[0], n[1], n[2], n[3]) ? 1 : 0,
                        y.person(p, n[0], n[1], n[2], n[3]) ? 1 : 0);
            }
            case 30 -> due("bar " + p + " " + r, x.bar(p, r, on) ? 1 : 0, y.bar(p, r, on) ? 1 : 0);
            case 31 -> due("choose " + rule, x.choose(rule), y.choose(rule));
            case 32 -> due("breaks " + rule, x.breaks(rule), y.breaks(rule));
            default -> due("place " + p + " " + r, x.place(p, r), y.place(p, r));
        }
    }
}
