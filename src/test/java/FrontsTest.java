/** Promises 16 to 27: the three fronts, weighings, near, stand-ins, cost and hole. */
public final class FrontsTest {
    private static final int NONE = UnbeatenHouse.NONE;
    private static final int NO_LOSS = -2000000000;

    private FrontsTest() {
    }

    public static void main(String[] args) {
        rowFronts();
        wayFronts();
        firstWays();
        manyWays();
        setFronts();
        testsOfSets();
        arithmetic();
        bounds();
        manySets();
        grids();
        corners();
        nearOnes();
        nearLimits();
        standIns();
        costs();
        holes();
        fewerWishes();
        fourWishes();
        roundabout();
        Check.finish("FrontsTest");
    }

    private static void rowFronts() {
        UnbeatenHouse x = Check.of("wish p less;wish q more;row ra 9 9;row rb 1 1;row rc ? 1;row rd 9 8;row re 1 1;");
        Check.due("front of rows", x.front(0, -7, 1000), 3);
        int[] who = {0, 1, 4};
        for (int k = 0; k < 3; k++) {
            Check.due("who " + k, x.who(k), who[k]);
            Check.due("knot of a row", x.knot(k, 0), NONE);
        }
        Check.due("loss(0, 0)", x.loss(0, 0), 9);
        Check.due("loss(0, 1)", x.loss(0, 1), -9);
        Check.due("loss(3, 0)", x.loss(3, 0), NO_LOSS);
        Check.due("loss(-1, 0)", x.loss(-1, 0), NO_LOSS);
        Check.due("loss(0, 2)", x.loss(0, 2), NO_LOSS);
        Check.due("loss(0, -1)", x.loss(0, -1), NO_LOSS);
        Check.due("who(3)", x.who(3), NONE);
        Check.due("who(-1)", x.who(-1), NONE);
        Check.due("front(3)", x.front(3, 0, 0), NONE);
        Check.due("front(-1)", x.front(-1, 0, 0), NONE);
        Check.due("that at hand stays", x.who(2), 4);
        // All aside: a front with none on it is one all the same.
        UnbeatenHouse y = Check.of("wish p less;row ra ?;");
        Check.due("none on it", y.front(0, 0, 0), 0);
        Check.due("near of none", y.near(0), 0);
        Check.due("hole of none", y.hole(0), 0);
        Check.due("standIns of none", y.standIns(1), NONE);
        Check.due("question of none", y.question(2), NONE);
        UnbeatenHouse z = Check.of("knot ka;knot kb;");
        for (int what = 0; what < 3; what++) {
            Check.due("no wish, front " + what, z.front(what, 0, 1), NONE);
        }
    }

    private static void wayFronts() {
        UnbeatenHouse x = Check.of("wish p less;wish q more;knot ka;knot kb;knot kc;knot kd;tie ka kb 1 1;"
                + "tie kb kd 1 1;tie ka kc 5 9;tie kc kd 5 9;tie ka kd 9 1;tie kb ka 0 99;tie kd kc 0 99;tie kb kc 1 0;");
        // abd 2 -2; acd 10 -18; ad 9 -1 is beaten; abcd 7 -10.
        Check.due("ways", x.front(1, 0, 3), 3);
        int[][] ways = {{0, 1, 3}, {0, 1, 2, 3}, {0, 2, 3}};
        int[][] losses = {{2, -2}, {7, -10}, {10, -18}};
        for (int k = 0; k < 3; k++) {
            Check.due("way " + k + " has knots", x.who(k), ways[k].length);
            for (int i = 0; i < ways[k].length; i++) {
                Check.due("way " + k + " knot " + i, x.knot(k, i), ways[k][i]);
            }
            Check.due("way " + k + " behind", x.knot(k, ways[k].length), NONE);
            Check.due("way " + k + " ahead", x.knot(k, -1), NONE);
            Check.due("way " + k + " p", x.loss(k, 0), losses[k][0]);
            Check.due("way " + k + " q", x.loss(k, 1), losses[k][1]);
        }
        Check.due("knot of none", x.knot(3, 0), NONE);
        Check.due("a knot to itself", x.front(1, 2, 2), NONE);
        Check.due("no such knot", x.front(1, 0, 4), NONE);
        Check.due("knot -1", x.front(1, -1, 0), NONE);
        Check.due("stays", x.who(1), 4);
        Check.due("against the ties: kc to ka", x.front(1, 2, 0), 0);
        Check.due("and that is at hand", x.who(0), NONE);
        Check.due("one way back", x.front(1, 1, 0), 1);
        Check.due("its knots", x.who(0), 2);
        Check.due("from kb", x.knot(0, 0), 1);
        Check.due("to ka", x.knot(0, 1), 0);
        Check.due("its q", x.loss(0, 1), -99);
    }

    /** Of like rows of losses the first way, though it is found behind another one. */
    private static void firstWays() {
        UnbeatenHouse x = Check.of("wish p less;knot ka;knot kb;knot kc;knot kd;knot ke;tie ka kb 2;tie ka kb 1;"
                + "tie kb kd 3;tie kb kc 1;tie kc kd 3;tie kd ke 0;");
        // ab(2) b.. : abde 5, abcde 6; ab(1): abde 4, abcde 5.
        Check.due("to ke", x.front(1, 0, 4), 1);
        Check.due("least", x.loss(0, 0), 4);
        UnbeatenHouse y = Check.of("wish p less;knot ka;knot kb;knot kc;knot kd;tie ka kc 1;tie kc kd 1;tie ka kb 1;"
                + "tie kb kd 1;tie ka kd 2;");
        Check.due("three like ways", y.front(1, 0, 3), 1);
        Check.due("the first one", y.knot(0, 1), 1);
        UnbeatenHouse z = Check.of("wish p less;knot ka;knot kb;knot kc;knot kd;tie ka kb 2;tie ka kb 1;"
                + "tie kb kd 1;tie kb kc 1;tie kc kd 1;tie ka kd 2;");
        // abd by the second tie 2, ad 2, abcd 3: the first of those with 2 is abd.
        Check.due("parallel ties", z.front(1, 0, 3), 1);
        Check.due("abd ahead of ad", z.knot(0, 1), 1);
        // Nine ties in a row: the longest way.
        StringBuilder t = new StringBuilder("wish p more;");
        for (int i = 0; i < 10; i++) {
            t.append("knot k").append((char) ('a' + i)).append(';');
        }
        for (int i = 0; i < 9; i++) {
            t.append("tie k").append((char) ('a' + i)).append(" k").append((char) ('b' + i)).append(" 9999;");
        }
        UnbeatenHouse u = Check.of(t.toString());
        Check.due("ten knots", u.front(1, 0, 9), 1);
        Check.due("it has ten", u.who(0), 10);
        Check.due("its loss", u.loss(0, 0), -89991);
        for (int i = 0; i < 10; i++) {
            Check.due("knot " + i, u.knot(0, i), i);
        }
        Check.due("knot 10", u.knot(0, 10), NONE);
    }

    /** Hops of three ties, each hop with weights of its own: 3 to the n ways that don't beat each other. */
    private static String hops(int hops, int third) {
        StringBuilder t = new StringBuilder("wish p less;wish q more;");
        for (int i = 0; i <= hops; i++) {
            t.append("knot k").append((char) ('a' + i)).append(';');
        }
        int n = 1;
        for (int i = 0; i < hops; i++) {
            for (int k = 0; k < (i == hops - 1 ? third : 3); k++) {
                t.append("tie k").append((char) ('a' + i)).append(" k").append((char) ('b' + i)).append(' ');
                t.append(k * n).append(' ').append(k * n).append(';');
            }
            n *= 3;
        }
        return t.toString();
    }

    private static void manyWays() {
        UnbeatenHouse x = Check.of(hops(4, 3));
        Check.due("81 ways", x.front(1, 0, 4), 81);
        Check.due("the last one", x.loss(80, 1), -80);
        Check.due("too many for near", x.near(0), NONE);
        Check.due("too many for standIns", x.standIns(1), NONE);
        UnbeatenHouse y = Check.of(hops(5, 2));
        Check.due("27 ways", y.front(1, 0, 3), 27);
        Check.due("162 ways", y.front(1, 0, 5), -2);
        Check.due("that at hand stays", y.loss(26, 0), 26);
        Check.due("and no more", y.loss(27, 0), NO_LOSS);
        UnbeatenHouse z = Check.of(hops(8, 3));
        Check.due("6561 ways", z.front(1, 0, 8), -2);
        Check.due("nothing at hand", z.near(0), NONE);
        Check.due("2187 ways", z.front(1, 1, 8), -2);
        // Less of all: 6561 ways, of which one beats the others.
        UnbeatenHouse u = Check.of(hops(8, 3).replace("more", "less"));
        Check.due("one of 6561", u.front(1, 0, 8), 1);
        Check.due("its loss", u.loss(0, 0), 0);
        // A hundred on it is not too many.
        Check.due("100 ways", Check.of(hundred("")).front(1, 0, 2), 100);
        Check.due("101 ways", Check.of(hundred("tie ka kc 100 100;")).front(1, 0, 2), -2);
    }

    /** Two hops of ten ties each, and perhaps a straight tie. */
    private static String hundred(String more) {
        StringBuilder t = new StringBuilder("wish p less;wish q more;knot ka;knot kb;knot kc;");
        for (int i = 0; i < 10; i++) {
            t.append("tie ka kb ").append(i).append(' ').append(i).append(';');
            t.append("tie kb kc ").append(10 * i).append(' ').append(10 * i).append(';');
        }
        return t + more;
    }

    private static void setFronts() {
        UnbeatenHouse x = Check.of("wish p less;wish q more;thing ta 3 4;thing tb 2 4;thing tc 5 1;thing td 1 0;");
        // none 0 0; tb 2 -4; ta tb 5 -8; ta tb tc 10 -9.
        Check.due("sets", x.front(2, 99, 99), 4);
        int[] sets = {0, 2, 3, 7};
        int[] p = {0, 2, 5, 10};
        int[] q = {0, -4, -8, -9};
        for (int k = 0; k < 4; k++) {
            Check.due("set " + k, x.who(k), sets[k]);
            Check.due("its p", x.loss(k, 0), p[k]);
            Check.due("its q", x.loss(k, 1), q[k]);
            Check.due("knot of a set", x.knot(k, 0), NONE);
        }
        Check.due("again", x.front(2, 0, 0), 4);
        // Of like losses the first set as a number.
        UnbeatenHouse y = Check.of("wish p more;thing ta 1;thing tb 2;thing tc 2;thing td 1;rule many=2;rule of p=3;");
        Check.due("like sets", y.front(2, 0, 0), 1);
        Check.due("ta and tb", y.who(0), 3);
        UnbeatenHouse z = Check.of("wish p more;");
        Check.due("no things: the set of none", z.front(2, 0, 0), 1);
        Check.due("it is 0", z.who(0), 0);
        UnbeatenHouse u = Check.of("wish p more;thing ta 1;rule many>1;");
        Check.due("none holds", u.front(2, 0, 0), 0);
        Check.due("it is at hand", u.near(5), 0);
        // A new text is another one.
        Check.text(u, "wish p more;thing ta 1;");
        Check.due("the new text's", u.front(2, 0, 0), 1);
        Check.due("its set", u.who(0), 1);
    }

    /** Which sets of three things hold: four wishes tell them apart, so all are on the front. */
    private static void setsHold(String test, int... sets) {
        UnbeatenHouse x = Check.of("wish p less;wish q more;thing ta 1 1;thing tb 2 2;thing tc 4 4;rule " + test + ";");
        Check.due("how many: " + test, x.front(2, 0, 0), sets.length);
        for (int k = 0; k < sets.length; k++) {
            Check.due(k + " of " + test, x.who(k), sets[k]);
        }
    }

    private static void testsOfSets() {
        setsHold("all", 0, 1, 2, 3, 4, 5, 6, 7);
        setsHold("not all");
        setsHold("has tb", 2, 3, 6, 7);
        setsHold("not has tb", 0, 1, 4, 5);
        setsHold("not not has tb", 2, 3, 6, 7);
        setsHold("has ta or has tb and has tc", 1, 3, 5, 6, 7);
        setsHold("has tb and has tc or has ta", 1, 3, 5, 6, 7);
        setsHold("[has ta or has tb] and has tc", 5, 6, 7);
        setsHold("not has ta and has tb", 2, 6);
        setsHold("not [has ta and has tb]", 0, 1, 2, 4, 5, 6);
        setsHold("has ta and not has tb", 1, 5);
        setsHold("has ta or not has tb and has tc", 1, 3, 4, 5, 7);
        setsHold("many=2", 3, 5, 6);
        setsHold("many<1", 0);
        setsHold("many>2", 7);
        setsHold("of p>5", 6, 7);
        setsHold("of q=5", 5);
        setsHold("all;rule has ta;rule has tb", 3, 7);
        setsHold("all;rule many=1;rule many=2");
        setsHold("all;rule not has ta", 0, 2, 4, 6);
    }

    private static void holds(String test, boolean due) {
        UnbeatenHouse x = Check.of("wish p less;rule " + test + ";");
        Check.due(test, x.front(2, 0, 0), due ? 1 : 0);
    }

    private static void arithmetic() {
        holds("1+2*3=7", true);
        holds("(1+2)*3=9", true);
        holds("10-3-2=5", true);
        holds("10-(3-2)=9", true);
        holds("24/4/2=3", true);
        holds("24/(4/2)=12", true);
        holds("7/2*2=6", true);
        holds("2*7/2=7", true);
        holds("7/2=3", true);
        holds("(0-7)/2=0-4", true);
        holds("7/(0-2)=0-4", true);
        holds("(0-7)/(0-2)=3", true);
        holds("7/0=0", true);
        holds("(0-7)/0=0", true);
        holds("0/0=0", true);
        holds("min(3,2)=2", true);
        holds("max(3,2)=3", true);
        holds("min(0-3,2)+max(2,5-1)=1", true);
        holds("many=0", true);
        holds("1<1", false);
        holds("1>1", false);
        holds("1=2", false);
        holds("2>1", true);
        holds("1<2", true);
    }

    private static void bounds() {
        String greatest = "9999*9999*9999";
        holds(greatest + "=1000*1000*1000", true);
        holds(greatest + "+1=" + greatest, true);
        holds(greatest + "-1<" + greatest, true);
        holds("0-" + greatest + "-1=0-" + greatest, true);
        holds("(0-9999)*9999*9999=0-" + greatest, true);
        holds("(0-" + greatest + ")-" + greatest + "=0-" + greatest, true);
        holds("(0-" + greatest + ")*" + greatest + "=0-" + greatest, true);
        holds("(0-" + greatest + ")*(0-1)=" + greatest, true);
        holds(greatest + "+" + greatest + "-" + greatest + "=0", true);
        holds("9999*9999=9999*9998+9999", true);
        holds("1000*1000*999+999*1000+999<1000*1000*1000", true);
    }

    private static void manySets() {
        Check.due("64 sets", Check.of(Texts.powers(6, "")).front(2, 0, 0), 64);
        Check.due("100 sets", Check.of(Texts.powers(7, "rule of p<100;")).front(2, 0, 0), 100);
        UnbeatenHouse x = Check.of(Texts.powers(7, "rule of p<101;") + "row ra 1 1;");
        x.front(0, 0, 0);
        Check.due("101 sets", x.front(2, 0, 0), -2);
        Check.due("101 sets again", x.front(2, 0, 0), -2);
        Check.due("that at hand stays", x.loss(0, 1), -1);
        Check.due("4096 sets", Check.of(Texts.powers(12, "")).front(2, 0, 0), -2);
        UnbeatenHouse y = Check.of(Texts.powers(12, "rule of p>4090;"));
        Check.due("few of 4096", y.front(2, 0, 0), 5);
        Check.due("the last one", y.who(4), 4095);
    }

    private static void grids() {
        UnbeatenHouse x = Check.of("wish p less;wish q less;wish r less;row ra 1 1 1;");
        Check.due("weighings of 4", x.agree(), 15);
        Check.due("grid(1)", x.grid(1), true);
        Check.due("weighings of 1", x.agree(), 3);
        Check.due("grid(12)", x.grid(12), true);
        Check.due("weighings of 12", x.agree(), 91);
        Check.due("grid(0)", x.grid(0), false);
        Check.due("grid(13)", x.grid(13), false);
        Check.due("grid(-1)", x.grid(-1), false);
        Check.due("it stays", x.has(7), 12);
        UnbeatenHouse y = Check.of("wish p less;wish q less;wish r less;wish s less;");
        y.grid(12);
        Check.due("455 weighings", y.agree(), 455);
        y.grid(11);
        Check.due("364 weighings", y.agree(), 364);
        y.grid(4);
        Check.due("35 weighings", y.agree(), 35);
        Check.text(y, "wish p less;wish q less;wish r less;wish s less;row ra 0 9 9 9;row rb 9 0 9 9;row rc 9 9 0 9;"
                + "row rd 9 9 9 0;");
        y.grid(1);
        y.front(0, 0, 0);
        for (int k = 0; k < 4; k++) {
            Check.due("one weighing for " + k, y.corner(k), 1);
            for (int i = 0; i < 4; i++) {
                Check.due("weight " + k + " " + i, y.weight(k, i), k == i ? 1 : 0);
            }
        }
        y.grid(2);
        // (0, 0, 0, 2), (0, 0, 1, 1), (0, 1, 0, 1), (1, 0, 0, 1) for rd; (0, 0, 1, 1) the first for rc, (1, 0, 0, 1) for ra.
        Check.due("rd", y.corner(3), 4);
        Check.due("rc's first", y.weight(2, 3), 1);
        Check.due("ra's first", y.weight(0, 0), 1);
        Check.due("ra's first, the last", y.weight(0, 3), 1);
        UnbeatenHouse z = Check.of("wish p less;");
        Check.due("one weighing", z.agree(), 1);
    }

    private static void corners() {
        // By weights (a, 4 - a): ra 0 12, rb 4 4, rc 12 0, rd 6 6 is beaten, re 4 8 too.
        UnbeatenHouse x = Check.of("wish p less;wish q less;row ra 0 12;row rb 5 5;row rc 12 0;row rd 7 4;");
        Check.due("front", x.front(0, 0, 0), 4);
        // worths by (0,4): 48 20 0 16; (1,3): 36 20 12 19; (2,2): 24 20 24 22; (3,1): 12 20 36 25; (4,0): 0 20 48 28.
        int[] corners = {2, 1, 2, 0};
        int[][] firsts = {{3, 1}, {2, 2}, {0, 4}, {NONE, NONE}};
        for (int k = 0; k < 4; k++) {
            Check.due("corner " + k, x.corner(k), corners[k]);
            for (int i = 0; i < 2; i++) {
                Check.due("weight " + k + " " + i, x.weight(k, i), firsts[k][i]);
            }
        }
        Check.due("corner(4)", x.corner(4), NONE);
        Check.due("corner(-1)", x.corner(-1), NONE);
        Check.due("weight(4, 0)", x.weight(4, 0), NONE);
        Check.due("weight(0, 2)", x.weight(0, 2), NONE);
        Check.due("weight(0, -1)", x.weight(0, -1), NONE);
        x.grid(1);
        // (0,1) and (1,0) alone: rb is hollow then.
        Check.due("corner 1 of grid 1", x.corner(1), 0);
        Check.due("weight 1 of grid 1", x.weight(1, 0), NONE);
        x.change(0, 0, 9);
        Check.due("the front at hand stays", x.corner(0), 1);
        // Like ones are first together; more is less.
        UnbeatenHouse y = Check.of("wish p more;row ra 3;row rb 3;row rc 2;");
        y.front(0, 0, 0);
        Check.due("like ones", y.corner(0) + y.corner(1), 2);
        Check.due("their weight", y.weight(1, 0), 4);
    }

    private static void nearOnes() {
        UnbeatenHouse x = Check.of("wish p less;wish q less;row ra 0 9;row rb 3 6;row rc 6 3;row rd 9 0;");
        x.front(0, 0, 0);
        Check.due("near(0)", x.near(0), 4);
        Check.due("kept(3)", x.kept(3), 3);
        Check.due("kept(4)", x.kept(4), NONE);
        Check.due("near(2)", x.near(2), 4);
        Check.due("near(3)", x.near(3), 2);
        Check.due("ra stands for ra, rb", x.kept(0), 0);
        // rb stands for ra, rb and rc; then rc or rd stands for rd: 0 2 does too.
        Check.due("rc for rb, rc, rd", x.kept(1), 2);
        Check.due("near(5)", x.near(5), 2);
        Check.due("near(6)", x.near(6), 1);
        Check.due("rb for all", x.kept(0), 1);
        Check.due("near(9)", x.near(9), 1);
        Check.due("ra for all", x.kept(0), 0);
        Check.due("kept(1)", x.kept(1), NONE);
        Check.due("kept(-1)", x.kept(-1), NONE);
        Check.due("near(-1)", x.near(-1), NONE);
        Check.due("near(10000)", x.near(10000), NONE);
        Check.due("near(9999)", x.near(9999), 1);
        x.near(3);
        Check.due("refused", x.near(-1), NONE);
        Check.due("kept stays", x.kept(1), 2);
        x.change(0, 0, 0);
        x.change(0, 1, 0);
        x.front(0, 0, 0);
        Check.due("kept as it was then", x.kept(1), 2);
        Check.due("one alone", x.near(0), 1);
        UnbeatenHouse y = Check.of("wish p less;row ra 5;row rb 5;row rc 5;");
        y.front(0, 0, 0);
        Check.due("like ones stand for each other", y.near(0), 1);
    }

    private static void nearLimits() {
        UnbeatenHouse x = Check.of(Texts.steepStair(16));
        x.front(0, 0, 0);
        Check.due("16 with 0", x.near(0), 16);
        Check.due("the last one", x.kept(15), 15);
        Check.due("16 with 10", x.near(10), 6);
        Check.due("16 with 30", x.near(30), 3);
        UnbeatenHouse y = Check.of(Texts.steepStair(17));
        y.front(0, 0, 0);
        Check.due("17", y.near(0), NONE);
        Check.due("17 for standIns", y.standIns(1), 80);
        Check.due("the middle", y.kept(0), 8);
        UnbeatenHouse z = Check.of(Texts.steepStair(24));
        z.front(0, 0, 0);
        Check.due("24 for standIns", z.standIns(4), 30);
        UnbeatenHouse u = Check.of(Texts.steepStair(25));
        u.front(0, 0, 0);
        Check.due("25 for standIns", u.standIns(4), NONE);
    }

    private static void standIns() {
        UnbeatenHouse x = Check.of("wish p less;wish q less;row ra 0 9;row rb 3 6;row rc 6 3;row rd 9 0;");
        x.front(0, 0, 0);
        Check.due("one", x.standIns(1), 6);
        Check.due("rb", x.kept(0), 1);
        Check.due("two", x.standIns(2), 3);
        Check.due("ra", x.kept(0), 0);
        Check.due("rc", x.kept(1), 2);
        Check.due("three", x.standIns(3), 3);
        Check.due("the first three", x.kept(2), 2);
        Check.due("four", x.standIns(4), 0);
        Check.due("all", x.kept(3), 3);
        Check.due("none", x.standIns(0), NONE);
        Check.due("five", x.standIns(5), NONE);
        Check.due("-1", x.standIns(-1), NONE);
        Check.due("kept stays", x.kept(3), 3);
        UnbeatenHouse v = Check.of(Texts.steepStair(6));
        v.front(0, 0, 0);
        Check.due("five of six", v.standIns(5), NONE);
        Check.due("four of six", v.standIns(4), 10);
        Check.due("two of six", v.standIns(2), 10);
        UnbeatenHouse w = Check.of("wish p less;wish q less;row ra 0 2;row rb 1 1;row rc 2 0;");
        w.front(0, 0, 0);
        Check.due("least of 1", w.standIns(1), 1);
        Check.due("by rb", w.kept(0), 1);
        UnbeatenHouse u = Check.of("wish p less;wish q less;row ra 0 1;row rb 0 1;row rc 1 0;");
        u.front(0, 0, 0);
        Check.due("0 behind 1", u.standIns(2), 0);
        Check.due("ra and", u.kept(0), 0);
        Check.due("rc", u.kept(1), 2);
        UnbeatenHouse y = Check.of("wish p less;wish q less;row ra 0 9;row rb 3 6;row rc 6 3;");
        Check.due("no front", y.standIns(1), NONE);
        y.front(0, 0, 0);
        Check.due("more than there are", y.standIns(4), NONE);
        Check.due("as many as there are", y.standIns(3), 0);
        // The least D is no number of near(): it may be greater than 9999.
        UnbeatenHouse z = Check.of("wish p less;wish q more;knot ka;knot kb;knot kc;tie ka kb 0 0;tie ka kb 9999 9999;"
                + "tie kb kc 0 0;tie kb kc 9999 9999;");
        Check.due("three ways", z.front(1, 0, 2), 3);
        Check.due("one for them", z.standIns(1), 9999);
        Check.text(z, "wish p less;wish q more;thing ta 9999 9999;thing tb 9999 9999;rule not many=1;");
        Check.due("two sets", z.front(2, 0, 0), 2);
        Check.due("one for both", z.standIns(1), 19998);
    }

    private static void costs() {
        UnbeatenHouse x = Check.of("wish p less;wish q less;wish r less;row ra 10 0 5;row rb 8 3 5;row rc 4 8 5;"
                + "row rd 0 30 5;");
        x.front(0, 0, 0);
        // From ra, of p in q: 3 / 2, 8 / 6 = 4 / 3, 30 / 10.
        Check.due("above", x.cost(0, 0, 1, true), 4);
        Check.due("below", x.cost(0, 0, 1, false), 3);
        Check.due("from rc, above", x.cost(2, 0, 1, true), 11);
        Check.due("from rc, below", x.cost(2, 0, 1, false), 2);
        Check.due("from rc, of q in p, above", x.cost(2, 1, 0, true), 3);
        Check.due("from rc, of q in p, below", x.cost(2, 1, 0, false), 4);
        Check.due("none has less p", x.cost(3, 0, 1, true), NONE);
        Check.due("none has more r", x.cost(0, 0, 2, true), NONE);
        Check.due("like wishes", x.cost(0, 0, 0, true), NONE);
        Check.due("no wish", x.cost(0, 0, 3, true), NONE);
        Check.due("wish -1", x.cost(0, -1, 0, true), NONE);
        Check.due("none such", x.cost(4, 0, 1, true), NONE);
        Check.due("k -1", x.cost(-1, 0, 1, false), NONE);
        UnbeatenHouse z = Check.of("wish p less;wish q less;wish r less;row ra 5 5 5;row rb 4 6 5;row rc 5 9 1;"
                + "row rd 4 5 9;");
        z.front(0, 0, 0);
        Check.due("by one", z.cost(0, 0, 1, true), 1);
        Check.due("for one", z.cost(0, 0, 1, false), 1);
        Check.due("like p, more q", z.cost(0, 2, 1, true), 1);
        Check.due("for 4 of r", z.cost(0, 2, 1, false), 1);
        Check.due("none has less q", z.cost(0, 1, 0, true), NONE);
        Check.due("less p, like q, more r", z.cost(0, 0, 2, true), 4);
        UnbeatenHouse y = Check.of("wish p less;wish q more;row ra 9999 9999;row rb 0 0;");
        y.front(0, 0, 0);
        Check.due("lowest terms", y.cost(0, 0, 1, true), 1);
        Check.due("below", y.cost(0, 0, 1, false), 1);
        Check.due("more of q", y.cost(1, 1, 0, true), 1);
    }

    private static void holes() {
        UnbeatenHouse x = Check.of("wish p less;wish q more;wish r less;row ra 10 10 4;row rb 0 1 4;row rc 3 5 4;"
                + "row rd 3 5 4;");
        Check.due("no front", x.hole(0), NONE);
        x.front(0, 0, 0);
        Check.due("of p: 0 3 3 10", x.hole(0), 7);
        Check.due("of q: -10 -5 -5 -1", x.hole(1), 5);
        Check.due("of r: like ones", x.hole(2), 0);
        UnbeatenHouse y = Check.of("wish p less;wish q less;row ra 0 2;row rb 1 1;row rc 2 0;");
        y.front(0, 0, 0);
        Check.due("holes of 1", y.hole(0) + y.hole(1), 2);
        Check.due("no wish", x.hole(3), NONE);
        Check.due("wish -1", x.hole(-1), NONE);
    }

    private static void fourWishes() {
        // By four wishes, so that the later ones order too: losses 1 1 -1 1, 1 1 0 0, 1 0 0 1, 0 1 0 1.
        String wishes = "wish p less;wish q less;wish r more;wish s less;";
        UnbeatenHouse x = Check.of(wishes + "knot ka;knot kb;tie ka kb 1 1 1 1;tie ka kb 1 1 0 0;tie ka kb 1 0 0 1;"
                + "tie ka kb 0 1 0 1;tie ka kb 1 1 0 1;");
        UnbeatenHouse y = Check.of(wishes + "thing ta 1 1 1 1;thing tb 1 1 0 0;thing tc 1 0 0 1;thing td 0 1 0 1;"
                + "thing te 1 1 0 1;rule many=1;");
        int[][] losses = {{0, 1, 0, 1}, {1, 0, 0, 1}, {1, 1, -1, 1}, {1, 1, 0, 0}};
        int[] sets = {8, 4, 1, 2};
        Check.due("four ways", x.front(1, 0, 1), 4);
        Check.due("four sets", y.front(2, 0, 0), 4);
        for (int k = 0; k < 4; k++) {
            for (int wish = 0; wish < 4; wish++) {
                Check.due("way " + k + " wish " + wish, x.loss(k, wish), losses[k][wish]);
                Check.due("set " + k + " wish " + wish, y.loss(k, wish), losses[k][wish]);
            }
            Check.due("which set " + k, y.who(k), sets[k]);
        }
        Check.due("one each", x.corner(2), y.corner(2));
        Check.due("none less by its own wish", y.weight(3, 3), 4);
        Check.due("none more by the others", y.weight(3, 0), 0);
    }

    /** No knot twice, though more is better; and nothing is left of the sums of another front. */
    private static void roundabout() {
        UnbeatenHouse x = Check.of("wish p more;knot ka;knot kb;knot kc;knot kd;tie ka kb 1;tie kb kc 9;tie kc kb 9;"
                + "tie kc ka 9;tie kb kd 1;tie kc kd 1;tie kd kb 99;thing ta 5;thing tb 7;rule many=2;");
        Check.due("sets", x.front(2, 0, 0), 1);
        Check.due("both things", x.loss(0, 0), -12);
        Check.due("ways", x.front(1, 0, 3), 1);
        Check.due("a b c d", x.loss(0, 0), -11);
        Check.due("four knots", x.who(0), 4);
        Check.due("to kc", x.front(1, 0, 2), 1);
        Check.due("a b c", x.loss(0, 0), -10);
        Check.due("sets again", x.front(2, 0, 0), 1);
        Check.due("both things again", x.loss(0, 0), -12);
    }

    /** What a text with more wishes has left behind must not count in the next one. */
    private static void fewerWishes() {
        UnbeatenHouse x = Check.of("wish p less;wish q less;wish r less;wish s less;row ra 1 2 900 4;row rb 2 1 3 800;");
        x.front(0, 0, 0);
        Check.due("four wishes", x.standIns(1), 796);
        Check.text(x, "wish p less;wish q less;row ra 1 2;row rb 2 1;");
        x.front(0, 0, 0);
        Check.due("two wishes", x.standIns(1), 1);
        Check.due("near", x.near(1), 1);
        Check.due("corners", x.corner(0), 3);
        Check.due("weight", x.weight(1, 0), 0);
    }
}
