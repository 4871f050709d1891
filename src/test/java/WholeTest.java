import java.util.Random;

/**
 * Few texts drawn from fixed seeds, in which much is on the fronts and many choose; of each the answers are asked for
 * whole, and are the Oracle's. RandomTest asks here and there; this one asks all there is to ask.
 */
public final class WholeTest {
    private static final int MOST_CALLS = 500;

    private final Random random;
    private final long seed;
    private UnbeatenHouse x = new UnbeatenHouse();
    private Oracle y = new Oracle();
    private int calls = 0;
    private int wishes;
    private int rows;
    private int knots;

    private WholeTest(long seed) {
        this.seed = seed;
        random = new Random(seed);
    }

    public static void main(String[] args) {
        int runs = args.length > 0 ? Integer.parseInt(args[0]) : 60;
        long from = args.length > 1 ? Long.parseLong(args[1]) : 1;
        for (long seed = from; seed < from + runs && Check.wrongSoFar() < 20; seed++) {
            WholeTest t = new WholeTest(seed);
            t.judged();
            t.frontOfRows();
            t.said();
            t.chosen();
            t.frontsOfWays();
            t.frontOfSets();
        }
        Check.finish("WholeTest");
    }

    private int below(int n) {
        return random.nextInt(n);
    }

    private boolean mayCall() {
        return calls < MOST_CALLS;
    }

    private void due(String what, long got, long want) {
        calls++;
        Check.due("seed " + seed + ": " + what, got, want);
    }

    private void begin(String text) {
        x = new UnbeatenHouse();
        y = new Oracle();
        // 45 calls of feed at most, end and text.
        calls = 47;
        due("text " + text, Check.text(x, text), y.text(text));
        int grid = 1 + below(12);
        due("grid", x.grid(grid) ? 1 : 0, y.grid(grid) ? 1 : 0);
    }

    private String wishesAsText(int many) {
        wishes = many;
        StringBuilder t = new StringBuilder();
        for (int i = 0; i < wishes; i++) {
            t.append("wish ").append((char) ('a' + i)).append(more(i) ? " more;" : " less;");
        }
        return t.toString();
    }

    private boolean more(int wish) {
        return (seed >> wish & 1) != 0;
    }

    /** What has more of one wish has less of another one, so that few are beaten. */
    private String rowsAsText(int most, int range) {
        StringBuilder t = new StringBuilder(wishesAsText(1 + below(4)));
        rows = 0;
        while (rows < most && t.length() < 850) {
            t.append("row r").append((char) ('a' + rows / 26)).append((char) ('a' + rows % 26));
            int left = range;
            for (int i = 0; i < wishes; i++) {
                int part = i == wishes - 1 ? Math.max(0, left + below(3) - 1) : below(left + 1);
                left -= part;
                t.append(' ').append(below(60) == 0 ? "?" : more(i) ? range + 1 - part : part);
                if (below(4) == 0 && t.charAt(t.length() - 1) != '?') {
                    t.append('~').append(below(range / 3 + 1));
                }
            }
            t.append(';');
            rows++;
        }
        return t.toString();
    }

    private int range() {
        return new int[] {4, 9, 40, 300}[below(4)];
    }

    // ---- rows

    private void judged() {
        begin(rowsAsText(13, range()));
        for (int turn = 0; turn < 3; turn++) {
            for (int a = 0; a < rows; a++) {
                due("leads " + a, x.leads(a), y.leads(a));
                for (int b = 0; b < rows && turn == 0; b++) {
                    due("beats " + a + " " + b, x.beats(a, b), y.beats(a, b));
                    due("maybe " + a + " " + b, x.maybe(a, b), y.maybe(a, b));
                }
            }
            due("rows", x.rows(), y.rows());
            due("sure", x.unsure(true), y.unsure(true));
            due("possible", x.unsure(false), y.unsure(false));
            change();
        }
    }

    private void change() {
        int row = below(rows);
        int wish = below(wishes);
        int n = below(6) - 1;
        due("change " + row + " " + wish + " " + n, x.change(row, wish, n), y.change(row, wish, n));
        due("fell", x.changed(false), y.changed(false));
        due("came", x.changed(true), y.changed(true));
    }

    // ---- fronts

    private void frontOfRows() {
        begin(rowsAsText(10 + below(20), range()));
        takeFront(0, 0, 0);
        change();
        wholeFront(false);
    }

    private void takeFront(int what, int from, int to) {
        due("front " + what + " " + from + " " + to, x.front(what, from, to), y.front(what, from, to));
    }

    /** All that is told of the front at hand, as far as there are calls for it. */
    private void wholeFront(boolean ofWays) {
        int many = 0;
        while (y.loss(many, 0) != -2000000000) {
            many++;
        }
        picked(many);
        for (int i = 0; i < wishes; i++) {
            due("hole " + i, x.hole(i), y.hole(i));
        }
        // The last one is one too many.
        for (int k = 0; k <= many && mayCall(); k++) {
            due("who " + k, x.who(k), y.who(k));
            due("corner " + k, x.corner(k), y.corner(k));
            for (int i = 0; i < wishes && mayCall(); i++) {
                due("loss " + k + " " + i, x.loss(k, i), y.loss(k, i));
                due("weight " + k + " " + i, x.weight(k, i), y.weight(k, i));
                int j = (i + 1) % wishes;
                due("cost " + k + " " + i, x.cost(k, i, j, true), y.cost(k, i, j, true));
                due("cost for " + k + " " + i, x.cost(k, i, j, false), y.cost(k, i, j, false));
            }
            for (int i = 0; ofWays && i <= y.who(k) && mayCall(); i++) {
                due("knot " + k + " " + i, x.knot(k, i), y.knot(k, i));
            }
        }
    }

    /** The Oracle tries all choices slowly, so it is asked for few out of many alone. */
    private void picked(int many) {
        for (int k = 1; k <= 4; k++) {
            if (many <= 14 || many > 24 || k <= 2) {
                due("standIns " + k, x.standIns(k), y.standIns(k));
                kept(k);
            }
        }
        for (int d = 0; d < 300; d = d * 3 + 1) {
            if (many <= 12 || many > 16) {
                due("near " + d, x.near(d), y.near(d));
                kept(Math.min(many, 4));
            }
        }
    }

    private void kept(int most) {
        for (int i = 0; i <= most; i++) {
            due("kept " + i, x.kept(i), y.kept(i));
        }
    }

    // ---- sayings

    private void said() {
        begin(rowsAsText(4 + below(8), range()));
        int many = 1 + below(12);
        for (int turn = 0; turn < 40 && y.has(6) < many; turn++) {
            int a = below(rows);
            int b = below(rows);
            due("rather " + a + " " + b, x.rather(a, b), y.rather(a, b));
            followsFromSayings();
        }
        change();
        followsFromSayings();
        due("unsay", x.unsay(), y.unsay());
        followsFromSayings();
    }

    private void followsFromSayings() {
        due("agree", x.agree(), y.agree());
        due("could", x.could(), y.could());
        due("quarrel", x.quarrel(), y.quarrel());
        for (int d = 0; d < 20; d = d * 3 + 1) {
            due("stop " + d, x.stop(d), y.stop(d));
        }
        if (below(4) == 0) {
            due("question 0", x.question(0), y.question(0));
            due("question 1", x.question(1), y.question(1));
            due("question 2", x.question(2), y.question(2));
        }
    }

    // ---- people

    private void chosen() {
        begin(rowsAsText(3 + below(6), range()));
        for (int turn = 0; turn < 9; turn++) {
            int person = turn < 6 ? turn : below(6);
            int[] n = new int[4];
            for (int i = 0; i < wishes; i++) {
                n[i] = below(3) == 0 ? 0 : below(10);
            }
            due("person " + person, x.person(person, n[0], n[1], n[2], n[3]) ? 1 : 0,
                    y.person(person, n[0], n[1], n[2], n[3]) ? 1 : 0);
            allRules();
        }
        int row = below(rows);
        due("bar " + row, x.bar(0, row, true) ? 1 : 0, y.bar(0, row, true) ? 1 : 0);
        allRules();
        for (int person = 0; person < 6; person++) {
            for (int r = 0; r < rows; r++) {
                due("place " + person + " " + r, x.place(person, r), y.place(person, r));
            }
        }
    }

    private void allRules() {
        for (int rule = 0; rule < 4; rule++) {
            due("choose " + rule, x.choose(rule), y.choose(rule));
            due("breaks " + rule, x.breaks(rule), y.breaks(rule));
        }
    }

    // ---- ways and sets

    private void frontsOfWays() {
        begin(netAsText());
        int widest = 0;
        int from = 0;
        int to = 1;
        for (int a = 0; a < knots; a++) {
            for (int b = 0; b < knots; b++) {
                takeFront(1, a, b);
                if (y.front(1, a, b) > widest) {
                    widest = y.front(1, a, b);
                    from = a;
                    to = b;
                }
            }
        }
        takeFront(1, from, to);
        wholeFront(true);
    }

    /** Ties that go on and some that go back, a few of them side by side. */
    private String netAsText() {
        int range = range();
        StringBuilder t = new StringBuilder(wishesAsText(1 + below(3)));
        knots = 3 + below(8);
        t.append(Texts.knots(knots));
        for (int tie = 0; tie < 24 && t.length() < 870; tie++) {
            int a = below(knots - 1);
            int b = Math.min(knots - 1, a + 1 + below(2));
            boolean back = below(4) == 0;
            t.append("tie k").append((char) ('a' + (back ? b : a))).append(" k").append((char) ('a' + (back ? a : b)));
            for (int i = 0; i < wishes; i++) {
                t.append(' ').append(below(range + 1));
            }
            t.append(';');
        }
        return t.toString();
    }

    private void frontOfSets() {
        int range = range();
        StringBuilder t = new StringBuilder(wishesAsText(1 + below(4)));
        int things = 1 + below(10);
        for (int thing = 0; thing < things; thing++) {
            t.append("thing t").append((char) ('a' + thing));
            for (int i = 0; i < wishes; i++) {
                t.append(' ').append(below(range + 1));
            }
            t.append(';');
        }
        for (int rule = below(4); rule > 0; rule--) {
            t.append(rule(things, range));
        }
        begin(t.toString());
        takeFront(2, 0, 0);
        wholeFront(false);
    }

    private String rule(int things, int range) {
        String thing = "t" + (char) ('a' + below(things));
        String other = "t" + (char) ('a' + below(things));
        String wish = String.valueOf((char) ('a' + below(wishes)));
        return switch (below(6)) {
            case 0 -> "rule many > " + below(things) + " or has " + thing + ";";
            case 1 -> "rule not has " + thing + " or has " + other + ";";
            case 2 -> "rule of " + wish + " < " + range * things / 2 + ";";
            case 3 -> "rule not [has " + thing + " and has " + other + "];";
            case 4 -> "rule of " + wish + " / many > " + range / 3 + " or many * (many - 1) = 0;";
            default -> "rule max(many, of " + wish + ") > min(" + below(range) + ", " + below(things) + ");";
        };
    }
}
