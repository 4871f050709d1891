/** Terms II and III and promises 16 to 27 at their edges, a test for each sentence that names one. */
public final class FrontsEdgesTest {
    private static final int NONE = UnbeatenHouse.NONE;
    private static final int NO_LOSS = -2000000000;
    private static final int MIN = Integer.MIN_VALUE;
    private static final int MAX = Integer.MAX_VALUE;

    private FrontsEdgesTest() {
    }

    public static void main(String[] args) {
        waysGoByTies();
        noKnotTwice();
        sumsOfTies();
        setsOfNone();
        unlikeRows();
        byTheseRows();
        firstWay();
        firstSet();
        hundredWays();
        lastOfAllWays();
        hundredSets();
        atHandStays();
        notLookedAt();
        cantBe();
        noWish();
        refusedStays();
        lossOfNone();
        whoOfAll();
        knotOfNone();
        grids();
        weighings();
        inTheOrderOfRows();
        corners();
        noCorner();
        weightOfNone();
        standsFor();
        nearRefused();
        nearSixteen();
        nearTheFirst();
        standInsRefused();
        standInsTwentyFour();
        standInsTheFirst();
        keptAsItWas();
        costLowestTerms();
        costLeast();
        costNone();
        holes();
        holeNone();
        Check.finish("FrontsEdgesTest");
    }

    private static UnbeatenHouse rowsAtHand(String text) {
        UnbeatenHouse x = Check.of(text);
        x.front(0, 0, 0);
        return x;
    }

    private static void way(UnbeatenHouse x, int k, int... knots) {
        Check.due("knots of way " + k, x.who(k), knots.length);
        for (int i = 0; i < knots.length; i++) {
            Check.due("knot " + i + " of way " + k, x.knot(k, i), knots[i]);
        }
    }

    // ---- Terms II: ways and sets

    private static void waysGoByTies() {
        Check.sentence("Terms II", "A WAY from a KNOT to another one goes by TIES");
        UnbeatenHouse x = Check.of("wish p less;" + Texts.knots(4) + "tie ka kb 1;tie kb kc 1;");
        Check.due("a to b", x.front(1, 0, 1), 1);
        way(x, 0, 0, 1);
        Check.due("a to c", x.front(1, 0, 2), 1);
        way(x, 0, 0, 1, 2);
        Check.due("against the tie", x.front(1, 1, 0), 0);
        Check.due("to one without ties", x.front(1, 0, 3), 0);
        Check.due("from one without ties", x.front(1, 3, 0), 0);
        Check.due("no ties at all", Check.of("wish p less;" + Texts.knots(2)).front(1, 0, 1), 0);
    }

    private static void noKnotTwice() {
        Check.sentence("Terms II", "no KNOT twice");
        // More is better, but the ring of b, c and d can't be gone round, nor a or e be passed again.
        UnbeatenHouse x = Check.of("wish p more;" + Texts.knots(5) + "tie ka kb 0;tie kb kc 9;tie kc kd 9;"
                + "tie kd kb 9;tie kd ke 0;"
                + "tie kb ka 99;tie ke kb 99;tie ke ka 99;");
        Check.due("one way", x.front(1, 0, 4), 1);
        way(x, 0, 0, 1, 2, 3, 4);
        Check.due("its loss", x.loss(0, 0), -18);
        // Through all ten knots.
        StringBuilder t = new StringBuilder("wish p more;" + Texts.knots(10));
        for (int i = 0; i < 9; i++) {
            t.append("tie k").append((char) ('a' + i)).append(" k").append((char) ('b' + i)).append(" 9999;");
            t.append("tie k").append((char) ('b' + i)).append(" k").append((char) ('a' + i)).append(" 9999;");
        }
        UnbeatenHouse y = Check.of(t.toString());
        Check.due("there", y.front(1, 0, 9), 1);
        way(y, 0, 0, 1, 2, 3, 4, 5, 6, 7, 8, 9);
        Check.due("there is no eleventh", y.knot(0, 10), NONE);
        Check.due("back", y.front(1, 9, 0), 1);
        way(y, 0, 9, 8, 7, 6, 5, 4, 3, 2, 1, 0);
    }

    private static void sumsOfTies() {
        Check.sentence("Terms II", "it has the sums of its TIES");
        StringBuilder t = new StringBuilder("wish p less;wish q more;wish r less;wish s more;" + Texts.knots(10));
        for (int i = 0; i < 9; i++) {
            t.append("tie k").append((char) ('a' + i)).append(" k").append((char) ('b' + i)).append(" 9999 9999 0 1;");
        }
        UnbeatenHouse x = Check.of(t.toString());
        for (int to = 1; to < 10; to++) {
            Check.due("to " + to, x.front(1, 0, to), 1);
            int[] due = {9999 * to, -9999 * to, 0, -to};
            for (int wish = 0; wish < 4; wish++) {
                Check.due("loss to " + to + " of " + wish, x.loss(0, wish), due[wish]);
            }
        }
    }

    private static void setsOfNone() {
        Check.sentence("Terms II", "A SET of THINGS (perhaps none)");
        UnbeatenHouse x = Check.of("wish p less;wish q more;");
        Check.due("without things", x.front(2, 0, 0), 1);
        Check.due("the SET of none", x.who(0), 0);
        Check.due("it has nothing of p", x.loss(0, 0), 0);
        Check.due("nor of q", x.loss(0, 1), 0);
        Check.text(x, "wish p less;thing ta 0;");
        Check.due("like one with nothing", x.front(2, 0, 0), 1);
        Check.due("the first SET", x.who(0), 0);
        Check.text(x, "wish p less;rule many>0;");
        Check.due("not that either", x.front(2, 0, 0), 0);
    }

    private static void unlikeRows() {
        Check.sentence("Terms II", "Of WAYS, of SETS: of all unlike rows of LOSSES that no other one beats");
        UnbeatenHouse x = Check.of("wish p less;wish q more;" + Texts.knots(2) + "tie ka kb 1 1;".repeat(12)
                + "tie ka kb 2 2;".repeat(12));
        Check.due("24 ways, two rows", x.front(1, 0, 1), 2);
        UnbeatenHouse y = Check.of("wish p less;wish q more;thing ta 1 1;thing tb 1 1;thing tc 1 1;");
        Check.due("8 sets, four rows", y.front(2, 0, 0), 4);
        // Of ROWS the like ones are all on it.
        Check.due("like rows", rowsAtHand("wish p less;row ra 1;row rb 1;row rc 1;").who(2), 2);
        UnbeatenHouse z = Check.of("wish p less;wish q less;" + Texts.knots(2) + "tie ka kb 1 2;tie ka kb 2 1;"
                + "tie ka kb 2 2;tie ka kb 1 3;");
        Check.due("two beaten ones", z.front(1, 0, 1), 2);
    }

    private static void byTheseRows() {
        Check.sentence("Terms II", "by these rows (the first WISH first, the lesser LOSS first)");
        String wishes = "wish p more;wish q less;wish r more;";
        int[][] all = {{9, 9, 9}, {9, 8, 0}, {9, 7, 0}, {8, 0, 9}, {8, 0, 8}, {0, 0, 99}, {9, 9, 10}};
        StringBuilder ways = new StringBuilder(wishes + Texts.knots(2));
        StringBuilder sets = new StringBuilder(wishes + "rule many=1;");
        for (int i = 0; i < all.length; i++) {
            String numbers = all[i][0] + " " + all[i][1] + " " + all[i][2] + ";";
            ways.append("tie ka kb ").append(numbers);
            sets.append("thing t").append((char) ('a' + i)).append(' ').append(numbers);
        }
        // 9 9 9 is beaten by 9 9 10, 9 8 0 by 9 7 0, 8 0 8 by 8 0 9.
        int[][] losses = {{-9, 7, 0}, {-9, 9, -10}, {-8, 0, -9}, {0, 0, -99}};
        int[] which = {1 << 2, 1 << 6, 1 << 3, 1 << 5};
        UnbeatenHouse x = Check.of(ways.toString());
        UnbeatenHouse y = Check.of(sets.toString());
        Check.due("ways", x.front(1, 0, 1), 4);
        Check.due("sets", y.front(2, 0, 0), 4);
        for (int k = 0; k < 4; k++) {
            for (int wish = 0; wish < 3; wish++) {
                Check.due("way " + k, x.loss(k, wish), losses[k][wish]);
                Check.due("set " + k, y.loss(k, wish), losses[k][wish]);
            }
            Check.due("which set " + k, y.who(k), which[k]);
        }
    }

    private static void firstWay() {
        Check.sentence("Terms II", "each with the first WAY as a row of KNOTS");
        // a b j, a c j, a j: all have 2; told from behind.
        String ties = "tie ka kj 2;tie ka kc 1;tie kc kj 1;tie ka kb 1;tie kb kj 1;";
        UnbeatenHouse x = Check.of("wish p less;" + Texts.knots(10) + ties);
        Check.due("a to j", x.front(1, 0, 9), 1);
        way(x, 0, 0, 1, 9);
        UnbeatenHouse y = Check.of("wish p less;" + Texts.knots(10) + "tie ka kb 2;" + ties.replace("ka kb", "kd kb"));
        // Now b is 2 from a: a b j has 3, a c j and a j have 2.
        Check.due("a to j", y.front(1, 0, 9), 1);
        way(y, 0, 0, 2, 9);
        // A longer row is the first one if its first unlike KNOT is less: a b i j ahead of a c j.
        UnbeatenHouse z = Check.of("wish p less;" + Texts.knots(10) + "tie ka kc 2;tie kc kj 1;tie ki kj 1;"
                + "tie kb ki 1;tie ka kb 1;");
        Check.due("a to j", z.front(1, 0, 9), 1);
        way(z, 0, 0, 1, 8, 9);
        // From j back to a the knots are none the less in the order of numbers.
        UnbeatenHouse u = Check.of("wish p less;" + Texts.knots(10) + "tie kj ki 1;tie ki ka 1;tie kj kb 1;"
                + "tie kb ka 1;tie kj ka 2;");
        Check.due("j to a", u.front(1, 9, 0), 1);
        way(u, 0, 9, 0);
    }

    private static void firstSet() {
        Check.sentence("Terms II", "or the first SET as a number (bit i for THING i)");
        // 3 is had by c alone (4), a and b (3), and b and d (10).
        UnbeatenHouse x = Check.of("wish p more;thing ta 1;thing tb 2;thing tc 3;thing td 1;rule of p=3;");
        Check.due("sets with 3", x.front(2, 0, 0), 1);
        Check.due("a and b", x.who(0), 3);
        UnbeatenHouse y = Check.of("wish p more;thing ta 3;thing tb 1;thing tc 2;rule of p=3;");
        Check.due("a alone", y.front(2, 0, 0) + 10 * y.who(0), 11);
        StringBuilder t = new StringBuilder("wish p more;");
        for (int i = 0; i < 12; i++) {
            t.append("thing t").append((char) ('a' + i)).append(i < 11 ? " 0;" : " 1;");
        }
        UnbeatenHouse z = Check.of(t.toString());
        Check.due("the last thing", z.front(2, 0, 0), 1);
        Check.due("alone of 2048", z.who(0), 2048);
        UnbeatenHouse u = Check.of(t + "rule many=12;");
        Check.due("all things", u.front(2, 0, 0), 1);
        Check.due("are 4095", u.who(0), 4095);
    }

    // ---- Promise 16

    /** Two hops of ties: so many ways that none beats another one. */
    private static String hops(int first, int second, int straight) {
        StringBuilder t = new StringBuilder("wish p less;wish q more;" + Texts.knots(3));
        for (int i = 0; i < first; i++) {
            t.append("tie ka kb ").append(i).append(' ').append(i).append(';');
        }
        for (int i = 0; i < second; i++) {
            t.append("tie kb kc ").append(first * i).append(' ').append(first * i).append(';');
        }
        for (int i = 0; i < straight; i++) {
            t.append("tie ka kc ").append(500 + i).append(' ').append(500 + i).append(';');
        }
        return t.toString();
    }

    private static void hundredWays() {
        Check.sentence("Promise 16", "of WAYS .. -2 if there would be more than 100");
        Check.due("99", Check.of(hops(11, 9, 0)).front(1, 0, 2), 99);
        UnbeatenHouse x = Check.of(hops(10, 10, 0));
        Check.due("100", x.front(1, 0, 2), 100);
        for (int k = 0; k < 100; k++) {
            Check.due("loss " + k, x.loss(k, 0), k);
            Check.due("loss " + k, x.loss(k, 1), -k);
        }
        Check.due("no more", x.loss(100, 0), NO_LOSS);
        Check.due("101", Check.of(hops(10, 10, 1)).front(1, 0, 2), -2);
        Check.due("144", Check.of(hops(12, 12, 0)).front(1, 0, 2), -2);
        // Those that are beaten, and like ones, don't count.
        UnbeatenHouse y = Check.of(hops(12, 12, 0).replace("more", "less"));
        Check.due("one of 144", y.front(1, 0, 2), 1);
        Check.due("100 and a beaten one", Check.of(hops(10, 10, 0) + "tie ka kc 99 98;").front(1, 0, 2), 100);
        Check.due("100 and a like one", Check.of(hops(10, 10, 0) + "tie ka kc 99 99;").front(1, 0, 2), 100);
        Check.due("one beats them all", Check.of(hops(12, 11, 0) + "tie ka kc 0 9999;").front(1, 0, 2), 1);
    }

    /** 24 ties make 3 to the 8 ways at most: the one that goes by the last ties of all beats the others. */
    private static void lastOfAllWays() {
        Check.sentence("Promise 16", "how many are on it");
        StringBuilder t = new StringBuilder("wish p less;" + Texts.knots(9));
        for (int i = 0; i < 8; i++) {
            for (int n = 2; n >= 0; n--) {
                t.append("tie k").append((char) ('a' + i)).append(" k").append((char) ('b' + i)).append(' ').append(n).append(';');
            }
        }
        UnbeatenHouse x = Check.of(t.toString());
        Check.due("one of 6561", x.front(1, 0, 8), 1);
        Check.due("the last one", x.loss(0, 0), 0);
        way(x, 0, 0, 1, 2, 3, 4, 5, 6, 7, 8);
        UnbeatenHouse y = Check.of(t.toString().replace(" 0;", " 3;"));
        Check.due("one of 6561", y.front(1, 0, 8), 1);
        Check.due("by the second ties", y.loss(0, 0), 8);
    }

    private static void hundredSets() {
        Check.sentence("Promise 16", "of SETS .. -2 if there would be more than 100");
        Check.due("99", Check.of(Texts.powers(12, "rule of p<99;")).front(2, 0, 0), 99);
        UnbeatenHouse x = Check.of(Texts.powers(12, "rule of p<100;"));
        Check.due("100", x.front(2, 0, 0), 100);
        for (int k = 0; k < 100; k++) {
            Check.due("set " + k, x.who(k), k);
        }
        Check.due("no more", x.who(100), NONE);
        Check.due("101", Check.of(Texts.powers(12, "rule of p<101;")).front(2, 0, 0), -2);
        Check.due("4096", Check.of(Texts.powers(12, "")).front(2, 0, 0), -2);
        Check.due("one of 4096", Check.of(Texts.powers(12, "").replace("more", "less")).front(2, 0, 0), 1);
    }

    private static void atHandStays() {
        Check.sentence("Terms II", "(THE FRONT at hand stays as it was, whatever is changed behind.)");
        UnbeatenHouse x = rowsAtHand(Texts.steepStair(3));
        x.change(1, 0, NONE);
        x.change(0, 0, 9999);
        x.grid(2);
        x.rather(0, 2);
        x.bar(0, 2, true);
        Check.text(x, "row");
        Check.due("rows are others", x.rows(), 4);
        for (int k = 0; k < 3; k++) {
            Check.due("who " + k, x.who(k), k);
            Check.due("loss " + k, x.loss(k, 0), 10 * k);
            Check.due("loss " + k, x.loss(k, 1), -10 * k);
        }
        Check.due("near of what was", x.near(10), 1);
        Check.due("the one between", x.kept(0), 1);
        Check.due("hole of what was", x.hole(0), 10);
        Check.due("the front anew", x.front(0, 0, 0), 1);
        Check.due("its row", x.who(0), 2);
    }

    private static void notLookedAt() {
        Check.sentence("Promise 16", "of ROWS (what 0; from, to are not looked at) .. of SETS (2; likewise)");
        UnbeatenHouse x = Check.of(Texts.steepStair(3) + "thing ta 1 1;");
        for (int n : new int[] {MIN, -1, 0, 1, 10, MAX}) {
            Check.due("rows", x.front(0, n, n), 3);
            Check.due("rows", x.front(0, n, 0), 3);
            Check.due("rows", x.front(0, 0, n), 3);
            Check.due("sets", x.front(2, n, n), 2);
            Check.due("sets", x.front(2, n, 0), 2);
            Check.due("sets", x.front(2, 0, n), 2);
        }
    }

    private static void cantBe() {
        Check.sentence("Promise 16", "NONE if something can't be (unlike KNOTS)");
        UnbeatenHouse x = Check.of("wish p less;" + Texts.knots(3) + "tie ka kb 1;tie kb kc 1;");
        for (int what : new int[] {MIN, -2, -1, 3, 4, MAX}) {
            Check.due("front " + what, x.front(what, 0, 1), NONE);
        }
        for (int knot = 0; knot < 3; knot++) {
            Check.due("from one to itself", x.front(1, knot, knot), NONE);
            for (int none : new int[] {MIN, -1, 3, 9, 10, 32, MAX}) {
                Check.due("to none", x.front(1, knot, none), NONE);
                Check.due("from none", x.front(1, none, knot), NONE);
                Check.due("neither", x.front(1, none, none), NONE);
            }
        }
        Check.due("the last knot can be", x.front(1, 0, 2), 1);
        Check.due("no knots", Check.of("wish p less;").front(1, 0, 1), NONE);
        Check.due("one knot", Check.of("wish p less;knot ka;").front(1, 0, 0), NONE);
    }

    private static void noWish() {
        Check.sentence("Promise 16", "or there is no WISH");
        UnbeatenHouse x = Check.of(Texts.knots(2) + "rule all;");
        for (int what = 0; what < 3; what++) {
            Check.due("front " + what, x.front(what, 0, 1), NONE);
        }
        Check.due("nothing is at hand", x.near(0), NONE);
        // With a WISH that nothing has all three can be.
        UnbeatenHouse y = Check.of(Texts.knots(2) + "rule all;wish p less;");
        Check.due("rows", y.front(0, 0, 1), 0);
        Check.due("ways", y.front(1, 0, 1), 0);
        Check.due("sets", y.front(2, 0, 1), 1);
    }

    private static void refusedStays() {
        Check.sentence("Promise 16", "(for both: that at hand stays)");
        UnbeatenHouse x = Check.of(hops(12, 12, 0) + "row ra 1 1;row rb 2 2;thing ta 3 3;");
        x.front(1, 0, 2);
        Check.due("-2 with nothing at hand", x.near(0), NONE);
        x.front(5, 0, 0);
        Check.due("NONE with nothing at hand", x.hole(0), NONE);
        int[] due = {2, 12, 2};
        for (int what = 0; what < 3; what++) {
            Check.due("front " + what, x.front(what, 0, 1), due[what]);
            int who = x.who(1);
            int loss = x.loss(1, 1);
            int knot = x.knot(1, 1);
            Check.due("-2", x.front(1, 0, 2), -2);
            Check.due("NONE", x.front(1, 0, 3), NONE);
            Check.due("NONE", x.front(1, 1, 1), NONE);
            Check.due("NONE", x.front(3, 0, 1), NONE);
            Check.due("who stays", x.who(1), who);
            Check.due("loss stays", x.loss(1, 1), loss);
            Check.due("knot stays", x.knot(1, 1), knot);
            Check.due("no more of them", x.loss(due[what], 0), NO_LOSS);
        }
        UnbeatenHouse y = Check.of(Texts.powers(12, "row ra 1 1;"));
        y.front(0, 0, 0);
        Check.due("-2 of sets", y.front(2, 0, 0), -2);
        Check.due("the row stays", y.loss(0, 1), -1);
    }

    // ---- Promises 17 to 19

    private static void lossOfNone() {
        Check.sentence("Promise 17", "-2000000000 if there is none such");
        UnbeatenHouse x = Check.of(Texts.steepStair(2) + "thing ta 5 5;" + Texts.knots(2) + "tie ka kb 5 5;");
        Check.due("no front at hand", x.loss(0, 0), NO_LOSS);
        int[] due = {2, 1, 2};
        for (int what = 0; what < 3; what++) {
            x.front(what, 0, 1);
            for (int k : new int[] {MIN, -1, due[what], 99, 100, MAX}) {
                Check.due("k " + k, x.loss(k, 0), NO_LOSS);
            }
            for (int wish : new int[] {MIN, -1, 2, 3, 4, MAX}) {
                Check.due("wish " + wish, x.loss(0, wish), NO_LOSS);
            }
            Check.due("the last", x.loss(due[what] - 1, 1) > NO_LOSS, true);
        }
        Check.due("none on it", x.front(1, 1, 0), 0);
        Check.due("loss of none", x.loss(0, 0), NO_LOSS);
    }

    private static void whoOfAll() {
        Check.sentence("Promise 18", "The ROW, or the SET, of the k-th on THE FRONT at hand; "
                + "of a WAY how many KNOTS it has; NONE if there is none such");
        UnbeatenHouse x = rowsAtHand(Texts.steepStair(40));
        for (int k = 0; k < 40; k++) {
            Check.due("row " + k, x.who(k), k);
        }
        for (int k : new int[] {MIN, -1, 40, 41, 100, MAX}) {
            Check.due("who(" + k + ")", x.who(k), NONE);
        }
        UnbeatenHouse y = Check.of("wish p less;" + Texts.knots(2) + "tie ka kb 1;");
        Check.due("no front at hand", y.who(0), NONE);
        y.front(1, 0, 1);
        Check.due("two at least", y.who(0), 2);
        Check.due("none behind", y.who(1), NONE);
        y.front(1, 1, 0);
        Check.due("none on it", y.who(0), NONE);
    }

    private static void knotOfNone() {
        Check.sentence("Promise 19", "NONE if there is none such, or it is no WAY");
        UnbeatenHouse x = Check.of(Texts.steepStair(2) + "thing ta 5 5;" + Texts.knots(10) + "tie ka kj 5 5;");
        Check.due("no front at hand", x.knot(0, 0), NONE);
        for (int what = 0; what <= 2; what += 2) {
            x.front(what, 0, 0);
            for (int i = -1; i < 3; i++) {
                Check.due("no WAY", x.knot(0, i), NONE);
            }
        }
        x.front(1, 0, 9);
        Check.due("the first", x.knot(0, 0), 0);
        Check.due("the last", x.knot(0, 1), 9);
        for (int none : new int[] {MIN, -1, 2, 9, 10, 16, MAX}) {
            Check.due("knot " + none, x.knot(0, none), NONE);
        }
        for (int none : new int[] {MIN, -1, 1, 100, MAX}) {
            Check.due("way " + none, x.knot(none, 0), NONE);
        }
    }

    // ---- Terms III and promises 20 to 22

    private static void grids() {
        Check.sentence("Promise 20", "The GRID: true; false if it can't be");
        UnbeatenHouse x = Check.of("wish p less;wish q less;");
        Check.due("4 at first", x.has(7), 4);
        for (int g = 1; g <= 12; g++) {
            Check.due("grid(" + g + ")", x.grid(g), true);
            for (int none : new int[] {MIN, -1, 0, 13, 14, MAX}) {
                Check.due("grid(" + none + ")", x.grid(none), false);
            }
            Check.due("it stays", x.has(7), g);
            Check.due("weighings", x.agree(), g + 1);
        }
    }

    private static void weighings() {
        Check.sentence("Terms III", "WEIGHINGS of a GRID G (1 .. 12; 4 at first): all rows of whole weights, 0 and more, "
                + "one for each WISH, with the sum G");
        String[] wishes = {"wish p less;", "wish q less;", "wish r less;", "wish s less;"};
        StringBuilder t = new StringBuilder();
        for (int n = 1; n <= 4; n++) {
            t.append(wishes[n - 1]);
            UnbeatenHouse x = rowsAtHand(t + "row ra" + " 5".repeat(n) + ";");
            for (int g = 1; g <= 12; g++) {
                x.grid(g);
                int[] due = {1, g + 1, (g + 1) * (g + 2) / 2, (g + 1) * (g + 2) * (g + 3) / 6};
                Check.due(n + " wishes, grid " + g, x.agree(), due[n - 1]);
                Check.due("one alone is first by all", x.corner(0), due[n - 1]);
                for (int i = 0; i < n; i++) {
                    Check.due("the first weighing", x.weight(0, i), i == n - 1 ? g : 0);
                }
            }
        }
    }

    private static void inTheOrderOfRows() {
        Check.sentence("Terms III", "in the order of rows (lesser ones first)");
        // Each is first where its own wish has no less weight than the others: ra by 2 0 2, 2 1 1, 2 2 0, 3 .., 4 0 0.
        UnbeatenHouse x = rowsAtHand("wish p less;wish q less;wish r less;row ra 0 9 9;row rb 9 0 9;row rc 9 9 0;");
        int[][] firsts = {{2, 0, 2}, {0, 2, 2}, {0, 0, 4}};
        for (int k = 0; k < 3; k++) {
            for (int i = 0; i < 3; i++) {
                Check.due("weight " + i + " of " + k, x.weight(k, i), firsts[k][i]);
            }
        }
        Check.due("corner of ra", x.corner(0), 6);
    }

    private static void corners() {
        Check.sentence("Terms III", "A CORNER of a FRONT is first (none less) by some WEIGHING; else it is HOLLOW");
        // By 0 4 .. 4 0: ra 40 30 20 10 0, rb 20 all along, rc 0 10 20 30 40.
        UnbeatenHouse x = rowsAtHand("wish p less;wish q less;row ra 0 10;row rb 5 5;row rc 10 0;");
        Check.due("ra", x.corner(0), 3);
        Check.due("rb, like both in the middle", x.corner(1), 1);
        Check.due("rc", x.corner(2), 3);
        Check.due("weight of rb", x.weight(1, 0), 2);
        Check.due("first weight of ra", x.weight(0, 0), 2);
        x.grid(5);
        Check.due("between two weighings: HOLLOW", x.corner(1), 0);
        UnbeatenHouse y = rowsAtHand("wish p less;wish q less;row ra 0 10;row rb 5 6;row rc 10 0;");
        Check.due("one more: HOLLOW", y.corner(1), 0);
        UnbeatenHouse z = rowsAtHand("wish p less;wish q less;row ra 0 10;row rb 5 4;row rc 10 0;");
        Check.due("one less", z.corner(1), 1);
        UnbeatenHouse u = rowsAtHand("wish p more;wish q more;row ra 9999 0;row rb 9999 0;row rc 0 9999;");
        u.grid(12);
        Check.due("like ones are both first", u.corner(0), u.corner(1));
        Check.due("6 to 12 of p", u.corner(0), 7);
    }

    private static void noCorner() {
        Check.sentence("Promise 21", "(0: it is HOLLOW); NONE if there is none such");
        UnbeatenHouse x = Check.of("wish p less;wish q less;row ra 0 10;row rb 5 6;row rc 10 0;");
        Check.due("no front at hand", x.corner(0), NONE);
        x.front(0, 0, 0);
        Check.due("HOLLOW", x.corner(1), 0);
        for (int k : new int[] {MIN, -1, 3, 100, MAX}) {
            Check.due("corner(" + k + ")", x.corner(k), NONE);
        }
    }

    private static void weightOfNone() {
        Check.sentence("Promise 22", "NONE if there is none such");
        UnbeatenHouse x = Check.of("wish p less;wish q less;row ra 0 10;row rb 5 6;row rc 10 0;");
        Check.due("no front at hand", x.weight(0, 0), NONE);
        x.front(0, 0, 0);
        for (int i = -1; i < 3; i++) {
            Check.due("HOLLOW, weight " + i, x.weight(1, i), NONE);
        }
        for (int none : new int[] {MIN, -1, 2, 3, 4, MAX}) {
            Check.due("weight " + none, x.weight(0, none), NONE);
        }
        for (int none : new int[] {MIN, -1, 3, 100, MAX}) {
            Check.due("of " + none, x.weight(none, 0), NONE);
        }
        Check.due("the last", x.weight(2, 1), 4);
    }

    // ---- promises 23 to 25

    private static void standsFor() {
        Check.sentence("Terms III", "A stands for B, if no LOSS of A is more than that of B and D");
        UnbeatenHouse x = rowsAtHand("wish p less;wish q more;row ra 0 0;row rb 7 7;");
        Check.due("near(6)", x.near(6), 2);
        Check.due("near(7)", x.near(7), 1);
        UnbeatenHouse y = rowsAtHand("wish p less;wish q less;wish r less;wish s less;row ra 0 0 0 5;row rb 0 0 3 0;");
        Check.due("by the last wish: near(2)", y.near(2), 2);
        Check.due("rb stands for both", y.near(3), 1);
        Check.due("rb", y.kept(0), 1);
        Check.due("near(5): ra does, too", y.near(5), 1);
        Check.due("ra", y.kept(0), 0);
        UnbeatenHouse z = rowsAtHand("wish p less;row ra 5;row rb 5;row rc 5;");
        Check.due("like ones with 0", z.near(0), 1);
    }

    private static void nearRefused() {
        Check.sentence("Promise 23", "NONE if D can't be, there is no FRONT at hand");
        UnbeatenHouse x = Check.of("wish p less;wish q more;row ra 0 0;row rb 9999 9999;row rc?1;");
        Check.due("no front", x.near(0), NONE);
        x.front(0, 0, 0);
        Check.due("near(0)", x.near(0), 2);
        Check.due("near(9998)", x.near(9998), 2);
        Check.due("near(9999)", x.near(9999), 1);
        for (int d : new int[] {MIN, -2, -1, 10000, 10001, MAX}) {
            Check.due("near(" + d + ")", x.near(d), NONE);
        }
        Check.due("refused, so it is kept", x.kept(0), 0);
        // A front of none needs none.
        UnbeatenHouse y = rowsAtHand("wish p less;row ra?;");
        Check.due("of none", y.near(0), 0);
        Check.due("none kept", y.kept(0), NONE);
        Check.due("of none, D can't be", y.near(-1), NONE);
        Check.due("of none, D can't be", y.near(10000), NONE);
    }

    private static void nearSixteen() {
        Check.sentence("Promise 23", "or it has more than 16");
        for (int n = 1; n <= 16; n++) {
            UnbeatenHouse x = rowsAtHand(Texts.steepStair(n));
            Check.due(n + " by 0", x.near(0), n);
            Check.due("the last one", x.kept(n - 1), n - 1);
            Check.due("no more", x.kept(n), NONE);
            Check.due(n + " by 10", x.near(10), (n + 2) / 3);
            Check.due(n + " by 9999", x.near(9999), 1);
        }
        for (int n : new int[] {17, 18, 24, 40}) {
            UnbeatenHouse x = rowsAtHand(Texts.steepStair(n));
            Check.due(n + " by 0", x.near(0), NONE);
            Check.due(n + " by 9999", x.near(9999), NONE);
        }
    }

    private static void kept(UnbeatenHouse x, int... due) {
        for (int i = 0; i < due.length; i++) {
            Check.due("kept(" + i + ")", x.kept(i), due[i]);
        }
        Check.due("kept no more", x.kept(due.length), NONE);
    }

    private static void nearTheFirst() {
        Check.sentence("Terms III", "The fewest of a FRONT (16 at most) that stand for all of it; "
                + "of like ones the first in the order of rows of their numbers");
        // With 10 each of a stair stands for itself and those beside it.
        UnbeatenHouse x = rowsAtHand(Texts.steepStair(4));
        Check.due("two of 4", x.near(10), 2);
        kept(x, 0, 2);
        UnbeatenHouse y = rowsAtHand(Texts.steepStair(6));
        Check.due("two of 6", y.near(10), 2);
        kept(y, 1, 4);
        UnbeatenHouse z = rowsAtHand(Texts.steepStair(7));
        Check.due("three of 7", z.near(10), 3);
        kept(z, 0, 2, 5);
        Check.due("two of 7", z.near(20), 2);
        kept(z, 0, 4);
        Check.due("one of 7", z.near(30), 1);
        kept(z, 3);
        UnbeatenHouse u = rowsAtHand(Texts.steepStair(16));
        Check.due("six of 16", u.near(10), 6);
        kept(u, 0, 2, 5, 8, 11, 14);
    }

    private static void standInsRefused() {
        Check.sentence("Promise 24", "NONE if k can't be (more than there are, too), there is no FRONT at hand");
        UnbeatenHouse x = Check.of(Texts.steepStair(3));
        Check.due("no front", x.standIns(1), NONE);
        x.front(0, 0, 0);
        int[] due = {10, 10, 0};
        for (int k = 1; k <= 3; k++) {
            Check.due("standIns(" + k + ")", x.standIns(k), due[k - 1]);
        }
        for (int k : new int[] {MIN, -1, 0, 4, 5, MAX}) {
            Check.due("standIns(" + k + ")", x.standIns(k), NONE);
        }
        kept(x, 0, 1, 2);
        UnbeatenHouse y = rowsAtHand(Texts.steepStair(5));
        Check.due("four of five", y.standIns(4), 10);
        Check.due("five can't be", y.standIns(5), NONE);
        UnbeatenHouse z = rowsAtHand("wish p less;row ra?;");
        for (int k = 0; k <= 4; k++) {
            Check.due("of none", z.standIns(k), NONE);
        }
        UnbeatenHouse u = rowsAtHand(Texts.steepStair(1));
        Check.due("one of one", u.standIns(1), 0);
        Check.due("two of one", u.standIns(2), NONE);
    }

    private static void standInsTwentyFour() {
        Check.sentence("Promise 24", "or it has more than 24");
        UnbeatenHouse x = rowsAtHand(Texts.steepStair(24));
        int[] due = {120, 60, 40, 30};
        for (int k = 1; k <= 4; k++) {
            Check.due(k + " of 24", x.standIns(k), due[k - 1]);
        }
        // Three behind and three ahead each: 0 .. 3, 3 .. 9, 10 .. 16, 17 .. 23.
        kept(x, 0, 6, 13, 20);
        for (int n : new int[] {25, 26, 40}) {
            UnbeatenHouse y = rowsAtHand(Texts.steepStair(n));
            for (int k = 1; k <= 4; k++) {
                Check.due(k + " of " + n, y.standIns(k), NONE);
            }
        }
    }

    private static void standInsTheFirst() {
        Check.sentence("Terms III", "the least number D for which some k stand for all; those k, the first likewise");
        UnbeatenHouse x = rowsAtHand(Texts.steepStair(7));
        Check.due("one", x.standIns(1), 30);
        kept(x, 3);
        Check.due("two", x.standIns(2), 20);
        kept(x, 0, 4);
        Check.due("three", x.standIns(3), 10);
        kept(x, 0, 2, 5);
        Check.due("four need 10, too", x.standIns(4), 10);
        kept(x, 0, 1, 2, 5);
        UnbeatenHouse y = rowsAtHand("wish p less;row ra 5;row rb 5;row rc 5;row rd 5;row re 5;");
        for (int k = 1; k <= 4; k++) {
            Check.due("like ones need 0", y.standIns(k), 0);
        }
        kept(y, 0, 1, 2, 3);
        UnbeatenHouse z = rowsAtHand("wish p less;wish q more;row ra 0 0;row rb 9999 9999;");
        Check.due("9999", z.standIns(1), 9999);
        kept(z, 0);
    }

    private static void keptAsItWas() {
        Check.sentence("Promise 25", "the i-th of the latest near() or standIns() that was not NONE (as it was then); "
                + "NONE if there is none such");
        UnbeatenHouse x = Check.of(Texts.steepStair(7));
        Check.due("ahead of any", x.kept(0), NONE);
        x.near(0);
        Check.due("behind one that was NONE", x.kept(0), NONE);
        x.front(0, 0, 0);
        x.near(10);
        kept(x, 0, 2, 5);
        for (int i : new int[] {MIN, -1, 3, 15, 16, MAX}) {
            Check.due("kept(" + i + ")", x.kept(i), NONE);
        }
        x.near(-1);
        x.standIns(5);
        x.standIns(0);
        kept(x, 0, 2, 5);
        x.change(0, 0, NONE);
        x.front(2, 0, 0);
        kept(x, 0, 2, 5);
        x.standIns(2);
        Check.due("one set, two can't be", x.kept(2), 5);
        x.standIns(1);
        kept(x, 0);
        x.front(0, 0, 0);
        x.near(9999);
        kept(x, 0);
        x.near(0);
        kept(x, 0, 1, 2, 3, 4, 5);
    }

    // ---- promises 26 and 27

    private static void cost(UnbeatenHouse x, int k, int i, int j, int above, int below) {
        Check.due("above " + k + " " + i + " " + j, x.cost(k, i, j, true), above);
        Check.due("below " + k + " " + i + " " + j, x.cost(k, i, j, false), below);
    }

    private static void costLowestTerms() {
        Check.sentence("Terms III", "a fraction in lowest terms");
        int[][] pairs = {{1, 1}, {6, 4}, {4, 6}, {9999, 9999}, {9999, 1}, {1, 9999}, {9998, 9999}, {5000, 2500}, {7, 7}};
        int[][] due = {{1, 1}, {3, 2}, {2, 3}, {1, 1}, {9999, 1}, {1, 9999}, {9998, 9999}, {2, 1}, {1, 1}};
        for (int i = 0; i < pairs.length; i++) {
            String rows = "row ra 0 " + pairs[i][0] + ";row rb " + pairs[i][1] + " 0;";
            UnbeatenHouse x = rowsAtHand("wish p less;wish q less;" + rows);
            cost(x, 1, 0, 1, due[i][0], due[i][1]);
            cost(x, 0, 1, 0, due[i][1], due[i][0]);
            cost(x, 0, 0, 1, NONE, NONE);
        }
        // The greatest that things can have.
        StringBuilder t = new StringBuilder("wish p less;wish q more;rule many=0 or many=12;thing ta 1 9999;");
        for (int i = 1; i < 12; i++) {
            t.append("thing t").append((char) ('a' + i)).append(" 0 9999;");
        }
        UnbeatenHouse y = Check.of(t.toString());
        Check.due("two sets", y.front(2, 0, 0), 2);
        cost(y, 1, 0, 1, 119988, 1);
        cost(y, 0, 1, 0, 1, 119988);
    }

    private static void costLeast() {
        Check.sentence("Terms III", "over all of it whose LOSS of i is less than its own, and of j more: the least of");
        // From rd, of p in q: 10 / 8, 6 / 5, 3 / 2; from rc 7 / 6, 3 / 3.
        UnbeatenHouse x = rowsAtHand("wish p less;wish q less;row ra 0 10;row rb 3 6;row rc 6 3;row rd 8 0;");
        cost(x, 3, 0, 1, 6, 5);
        cost(x, 2, 0, 1, 1, 1);
        cost(x, 1, 0, 1, 4, 3);
        cost(x, 0, 0, 1, NONE, NONE);
        cost(x, 0, 1, 0, 3, 4);
        cost(x, 1, 1, 0, 5, 6);
        cost(x, 2, 1, 0, 2, 3);
        cost(x, 3, 1, 0, NONE, NONE);
        // Less of p and no more of q does not count: nor as 0, nor if it is less.
        UnbeatenHouse y = rowsAtHand("wish p less;wish q less;wish r less;row ra 5 5 5;row rb 4 5 6;"
                + "row rc 4 4 7;row rd 4 7 5;row re 5 9 4;");
        cost(y, 0, 0, 1, 2, 1);
        cost(y, 0, 0, 2, 1, 1);
        cost(y, 0, 2, 1, 4, 1);
        cost(y, 0, 1, 2, 2, 1);
        cost(y, 0, 1, 0, NONE, NONE);
    }

    private static void costNone() {
        Check.sentence("Promise 26", "NONE if there is none, or something can't be (unlike WISHES)");
        UnbeatenHouse x = Check.of("wish p less;wish q less;row ra 0 10;row rb 3 6;");
        cost(x, 1, 0, 1, NONE, NONE);
        x.front(0, 0, 0);
        cost(x, 1, 0, 1, 4, 3);
        cost(x, 1, 1, 0, NONE, NONE);
        cost(x, 1, 0, 0, NONE, NONE);
        cost(x, 1, 1, 1, NONE, NONE);
        for (int none : new int[] {MIN, -1, 2, 3, 4, MAX}) {
            cost(x, 1, none, 1, NONE, NONE);
            cost(x, 1, 0, none, NONE, NONE);
            cost(x, 1, none, none, NONE, NONE);
            cost(x, none, 0, 1, NONE, NONE);
        }
        UnbeatenHouse y = rowsAtHand("wish p less;wish q less;row ra 5 5;");
        cost(y, 0, 0, 1, NONE, NONE);
        UnbeatenHouse z = rowsAtHand("wish p less;row ra 5;");
        cost(z, 0, 0, 1, NONE, NONE);
    }

    private static void holes() {
        Check.sentence("Terms III", "HOLE of a WISH: the greatest difference of two LOSSES of the FRONT with none between");
        UnbeatenHouse x = rowsAtHand("wish p less;wish q more;row ra 0 9;row rb 4 9999;row rc 4 9999;"
                + "row rd 1 100;row re 0 9;");
        Check.due("of p: 0 1 4", x.hole(0), 3);
        Check.due("of q: 9 100 9999", x.hole(1), 9899);
        UnbeatenHouse y = rowsAtHand("wish p less;wish q more;row ra 0 0;row rb 9999 9999;");
        Check.due("9999", y.hole(0), 9999);
        Check.due("9999", y.hole(1), 9999);
        Check.due("a stair of 40", rowsAtHand(Texts.steepStair(40)).hole(1), 10);
    }

    private static void holeNone() {
        Check.sentence("Promise 27", "NONE if there is no FRONT at hand, or no such WISH (0 if all have like LOSSES)");
        UnbeatenHouse x = Check.of("wish p less;wish q more;row ra 5 5;row rb 5 5;");
        Check.due("no front", x.hole(0), NONE);
        x.front(0, 0, 0);
        Check.due("like ones", x.hole(0), 0);
        Check.due("like ones", x.hole(1), 0);
        for (int none : new int[] {MIN, -1, 2, 3, 4, MAX}) {
            Check.due("hole(" + none + ")", x.hole(none), NONE);
        }
        Check.due("one alone", rowsAtHand("wish p less;row ra 5;").hole(0), 0);
        UnbeatenHouse y = rowsAtHand("wish p less;row ra?;");
        Check.due("none on it", y.hole(0), 0);
        Check.due("none on it, no such wish", y.hole(1), NONE);
    }
}
