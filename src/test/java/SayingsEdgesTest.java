/** Terms IV and promises 28 to 34 at their edges, a test for each sentence that names one. */
public final class SayingsEdgesTest {
    private static final int NONE = UnbeatenHouse.NONE;
    private static final int MIN = Integer.MIN_VALUE;
    private static final int MAX = Integer.MAX_VALUE;
    private static final long ALL = (1L << 40) - 1;
    // Worths by 0 4, 1 3, 2 2, 3 1, 4 0: ra 48 36 24 12 0, rb 20 each, rc 0 12 24 36 48; rd is beaten, re aside.
    private static final String FIVE = "wish p less;wish q less;row ra 0 12;row rb 5 5;row rc 12 0;row rd 13 13;row re?1;";

    private SayingsEdgesTest() {
    }

    public static void main(String[] args) {
        ratherRefused();
        ratherOfAny();
        twelveSayings();
        unsayWithout();
        notMore();
        asideNow();
        withAll();
        agreeWithoutWish();
        agreeWithoutRows();
        couldBe();
        couldAsBits();
        questionWithout();
        questionOfOthers();
        questionOfTwo();
        questionFirst();
        questionOfForty();
        quarrelWithout();
        quarrelOfOne();
        quarrelFewest();
        quarrelFirst();
        quarrelOfFour();
        quarrelAsBits();
        stopRefused();
        stopNotMore();
        stopOfNone();
        stopFirst();
        Check.finish("SayingsEdgesTest");
    }

    // ---- promises 28 and 29

    private static void ratherRefused() {
        Check.sentence("Promise 28", "(both not ASIDE) .. NONE if something can't be, they are the same");
        UnbeatenHouse x = Check.of(FIVE);
        for (int turn = 0; turn < 2; turn++) {
            for (int row = 0; row < 5; row++) {
                Check.due("the same", x.rather(row, row), NONE);
                Check.due("aside behind", x.rather(row, 4), NONE);
                Check.due("aside ahead", x.rather(4, row), NONE);
                for (int none : new int[] {MIN, -1, 5, 39, 40, 64, MAX}) {
                    Check.due("none such behind", x.rather(row, none), NONE);
                    Check.due("none such ahead", x.rather(none, row), NONE);
                }
            }
            Check.due("nothing is said", x.has(6), turn);
            Check.due("one is", x.rather(0, 2), turn + 1);
        }
        x.change(4, 0, 1);
        Check.due("aside no more", x.rather(4, 0), 3);
        x.change(0, 0, NONE);
        Check.due("aside now", x.rather(4, 0), NONE);
        Check.due("no rows", Check.of("wish p less;").rather(0, 1), NONE);
    }

    private static void ratherOfAny() {
        Check.sentence("Promise 28", "ROW a rather than ROW b: how many SAYINGS there are");
        UnbeatenHouse x = Check.of(FIVE);
        Check.due("a beaten one", x.rather(3, 0), 1);
        Check.due("rather than it", x.rather(0, 3), 2);
        Check.due("the same again", x.rather(0, 3), 3);
        UnbeatenHouse y = Check.of(Texts.like(40));
        Check.due("the last rows", y.rather(39, 38), 1);
        Check.due("the last and the first", y.rather(39, 0), 2);
    }

    private static void twelveSayings() {
        Check.sentence("Terms IV", "SAYINGS (12 at most) .. or there are 12");
        UnbeatenHouse x = Check.of(FIVE);
        for (int i = 1; i <= 12; i++) {
            Check.due("rather", x.rather(0, 2), i);
        }
        for (int i = 0; i < 3; i++) {
            Check.due("a thirteenth", x.rather(2, 0), NONE);
            Check.due("has(6)", x.has(6), 12);
        }
        Check.due("it is not there", x.agree(), 3);
        Check.due("one goes", x.unsay(), 11);
        Check.due("one comes", x.rather(2, 0), 12);
        Check.due("the twelfth counts", x.agree(), 1);
        Check.due("none more", x.rather(0, 2), NONE);
    }

    private static void unsayWithout() {
        Check.sentence("Promise 29", "The last SAYING goes: how many there are then; NONE without");
        UnbeatenHouse x = Check.of(FIVE);
        Check.due("without", x.unsay(), NONE);
        x.rather(0, 2);
        x.rather(0, 1);
        x.rather(1, 0);
        int[] agree = {3, 2, 0};
        for (int i = 2; i >= 0; i--) {
            Check.due("agree", x.agree(), agree[i]);
            Check.due("unsay", x.unsay(), i);
        }
        Check.due("all agree", x.agree(), 5);
        Check.due("without", x.unsay(), NONE);
        Check.due("still without", x.unsay(), NONE);
        Check.due("none less than none", x.has(6), 0);
        Check.due("the first again", x.rather(0, 1), 1);
    }

    // ---- Terms IV: what agrees

    private static void notMore() {
        Check.sentence("Terms IV", "A WEIGHING AGREES with one, if the WORTH of A is not more than that of B");
        UnbeatenHouse x = Check.of("wish p less;wish q less;row ra 0 8;row rb 8 0;row rc 8 0;row rd 8 1;");
        x.rather(0, 1);
        Check.due("less, or like in the middle", x.agree(), 3);
        x.rather(1, 0);
        Check.due("like alone", x.agree(), 1);
        x.unsay();
        x.unsay();
        x.rather(1, 2);
        x.rather(2, 1);
        Check.due("like ones by all", x.agree(), 5);
        x.rather(3, 1);
        Check.due("one more: by p alone", x.agree(), 1);
        UnbeatenHouse y = Check.of("wish p more;row ra 9999;row rb 9998;row rc 0;");
        y.rather(0, 1);
        y.rather(1, 2);
        Check.due("more is better", y.agree(), 1);
        y.rather(1, 0);
        Check.due("one less", y.agree(), 0);
    }

    private static void asideNow() {
        Check.sentence("Terms IV", "or one of them is ASIDE now");
        UnbeatenHouse x = Check.of("wish p less;row ra 5;row rb 6;");
        x.rather(1, 0);
        Check.due("none agrees", x.agree(), 0);
        for (int row = 0; row < 2; row++) {
            x.change(row, 0, NONE);
            Check.due("aside", x.agree(), 1);
            Check.due("no quarrel", x.quarrel(), 0);
            Check.due("it stays said", x.has(6), 1);
            x.change(row, 0, 5 + row);
            Check.due("aside no more", x.agree(), 0);
            Check.due("a quarrel", x.quarrel(), 1);
        }
        x.change(1, 0, 5);
        Check.due("by what they have now", x.agree(), 1);
    }

    private static void withAll() {
        Check.sentence("Terms IV", "it AGREES, if with all");
        UnbeatenHouse x = Check.of("wish p less;wish q less;wish r less;wish s less;row ra 1 0 0 0;row rb 0 1 0 0;"
                + "row rc 0 0 1 0;row rd 0 0 0 1;");
        x.grid(12);
        Check.due("without sayings", x.agree(), 455);
        for (int row = 1; row < 4; row++) {
            x.rather(row - 1, row);
        }
        // Weights that never fall, with the sum 12: as many as ways to part 12 into four parts, or less.
        Check.due("with all of three", x.agree(), 34);
        x.rather(3, 0);
        Check.due("3 3 3 3 alone", x.agree(), 1);
        x.grid(11);
        Check.due("none of 11", x.agree(), 0);
    }

    // ---- promises 30 and 31

    private static void agreeWithoutWish() {
        Check.sentence("Promise 30", "NONE without a WISH");
        UnbeatenHouse x = new UnbeatenHouse();
        Check.due("a new object", x.agree(), NONE);
        Check.text(x, "knot ka;rule all;");
        Check.due("a text without", x.agree(), NONE);
        Check.text(x, "wish p less;");
        Check.due("one wish", x.agree(), 1);
        Check.text(x, "");
        Check.due("none again", x.agree(), NONE);
        x.grid(7);
        Check.due("with another grid", x.agree(), NONE);
    }

    private static void agreeWithoutRows() {
        Check.sentence("Promise 30", "How many WEIGHINGS AGREE");
        UnbeatenHouse x = Check.of("wish p less;wish q less;");
        Check.due("without rows", x.agree(), 5);
        Check.due("nothing could", x.could(), 0);
        Check.due("no quarrel", x.quarrel(), 0);
        Check.due("no stop", x.stop(9999), NONE);
        UnbeatenHouse y = Check.of("wish p less;wish q less;row ra??;");
        Check.due("all aside", y.agree(), 5);
        Check.due("nothing could", y.could(), 0);
    }

    private static void couldBe() {
        Check.sentence("Terms IV", "COULD: the ROWS of the FRONT of ROWS that are first among these "
                + "by some WEIGHING that AGREES");
        UnbeatenHouse x = Check.of(FIVE);
        Check.due("three", x.could(), 7);
        x.rather(0, 1);
        // 3 1 and 4 0 are left.
        Check.due("ra", x.could(), 1);
        x.unsay();
        x.rather(2, 0);
        Check.due("rc, and rb in the middle", x.could(), 2 + 4);
        x.rather(3, 1);
        Check.due("none agrees", x.could(), 0);
        // A beaten one is like the first one by a weighing with 0, and is not on the front.
        UnbeatenHouse y = Check.of("wish p less;wish q less;row ra 0 5;row rb 0 6;");
        Check.due("like by p alone", y.could(), 1);
        // Hollow ones could not.
        UnbeatenHouse z = Check.of("wish p less;wish q less;row ra 0 10;row rb 5 6;row rc 10 0;");
        Check.due("rb is hollow", z.could(), 1 + 4);
    }

    private static void couldAsBits() {
        Check.sentence("Promise 31", "COULD, as bits");
        for (int n : new int[] {1, 31, 32, 33, 40}) {
            Check.due(n + " like ones", Check.of(Texts.like(n)).could(), (1L << n) - 1);
        }
        UnbeatenHouse x = Check.of(Texts.like(40));
        for (int row : new int[] {0, 31, 32, 39}) {
            x.change(row, 0, 4);
            Check.due("the better one", x.could(), 1L << row);
            x.change(row, 0, 5);
        }
        Check.due("no rows", Check.of("wish p less;").could(), 0);
    }

    // ---- promise 32

    private static void questionWithout() {
        Check.sentence("Promise 32", "NONE without");
        UnbeatenHouse x = Check.of("wish p less;row ra 1;row rb 2;row rc?;");
        for (int what = 0; what < 3; what++) {
            Check.due("one on the front", x.question(what), NONE);
            Check.due("no row", Check.of("wish p less;").question(what), NONE);
            Check.due("all aside", Check.of("wish p less;row ra?;row rb?;").question(what), NONE);
        }
        x.change(2, 0, 1);
        Check.due("two on it", x.question(1), 2);
        x.change(2, 0, NONE);
        Check.due("one again", x.question(1), NONE);
    }

    private static void questionOfOthers() {
        Check.sentence("Promise 32", "or for others");
        UnbeatenHouse x = Check.of(FIVE);
        for (int what : new int[] {MIN, -1, 3, 4, MAX}) {
            Check.due("question(" + what + ")", x.question(what), NONE);
        }
        Check.due("A", x.question(0), 0);
        Check.due("B", x.question(1), 1);
        Check.due("leaves", x.question(2), 2);
    }

    private static void questionOfTwo() {
        Check.sentence("Terms IV", "it leaves the more of: how many COULD, if A rather than B were said, too; "
                + "if B rather than A were");
        // By 2 2 they are like, so both are left whatever is said.
        UnbeatenHouse x = Check.of("wish p less;wish q less;row ra 0 9;row rb 9 0;");
        Check.due("like in the middle", x.question(2), 2);
        x.grid(5);
        Check.due("no middle", x.question(2), 1);
        x.rather(0, 1);
        Check.due("one is left and none", x.question(2), 1);
        x.rather(1, 0);
        Check.due("none agrees: none are left", x.question(2), 0);
        Check.due("A all the same", x.question(0), 0);
        Check.due("B all the same", x.question(1), 1);
        Check.due("nothing is said by asking", x.has(6), 2);
    }

    private static void questionFirst() {
        Check.sentence("Terms IV", "Of all QUESTIONS the one that leaves fewest, the first (by A, then B)");
        // By 0 5 .. 5 0: ra 45 36 27 18 9 0, rb 30 29 28 27 26 25, rc and rd 0 9 18 27 36 45, re 25 26 27 28 29 30.
        UnbeatenHouse x = Check.of("wish p less;wish q less;row ra 0 9;row rb 5 6;row rc 9 0;row rd 9 0;row re 6 5;");
        x.grid(5);
        Check.due("could", x.could(), 1 + 4 + 8);
        Check.due("leaves", x.question(2), 2);
        // ra rather than rb by 2 3, too, so that ra, rc and rd are left; ra or rc: ra, or rc and rd.
        Check.due("A", x.question(0), 0);
        Check.due("B", x.question(1), 2);
        UnbeatenHouse y = Check.of(Texts.like(3));
        Check.due("like ones leave all", y.question(2), 3);
        Check.due("the first A", y.question(0), 0);
        Check.due("the first B", y.question(1), 1);
        y.change(0, 0, 6);
        Check.due("A then", y.question(0), 1);
        Check.due("B then", y.question(1), 2);
    }

    private static void questionOfForty() {
        Check.sentence("Terms IV", "A QUESTION: two ROWS A < B of the FRONT of ROWS");
        UnbeatenHouse x = Check.of(Texts.like(40));
        Check.due("40 like ones", x.question(2), 40);
        Check.due("A", x.question(0), 0);
        Check.due("B", x.question(1), 1);
        for (int row = 0; row < 38; row++) {
            x.change(row, 1, NONE);
        }
        Check.due("the last two", x.question(2), 2);
        Check.due("A", x.question(0), 38);
        Check.due("B", x.question(1), 39);
    }

    // ---- promise 33

    private static void quarrelWithout() {
        Check.sentence("Promise 33", "0 without one");
        UnbeatenHouse x = Check.of(FIVE);
        Check.due("without sayings", x.quarrel(), 0);
        for (int i = 0; i < 12; i++) {
            x.rather(0, 2);
            Check.due("all agree with one", x.quarrel(), 0);
        }
        Check.due("a new object", new UnbeatenHouse().quarrel(), 0);
        Check.due("without rows", Check.of("wish p less;").quarrel(), 0);
    }

    private static void quarrelOfOne() {
        Check.sentence("Terms IV", "A QUARREL: the fewest SAYINGS with which no WEIGHING AGREES");
        for (int i = 0; i < 12; i++) {
            UnbeatenHouse x = Check.of("wish p less;row ra 1;row rb 2;");
            for (int k = 0; k < 12; k++) {
                x.rather(k == i ? 1 : 0, k == i ? 0 : 1);
            }
            Check.due("saying " + i + " alone", x.quarrel(), 1 << i);
        }
    }

    private static void quarrelFewest() {
        Check.sentence("Terms IV", "the fewest SAYINGS");
        UnbeatenHouse x = Check.of("wish p less;wish q less;row ra 0 9;row rb 9 0;row rc 9 10;");
        x.grid(5);
        x.rather(0, 1);
        x.rather(1, 0);
        Check.due("two", x.quarrel(), 3);
        x.rather(2, 0);
        Check.due("one behind two", x.quarrel(), 4);
        x.unsay();
        Check.due("two again", x.quarrel(), 3);
    }

    private static void quarrelFirst() {
        Check.sentence("Terms IV", "of like ones the first as rows of numbers");
        // Of 0 and 11, 1 and 2, 2 and 11 the first: p against q. Those of 3 to 10 go with all.
        UnbeatenHouse x = Check.of("wish p less;wish q less;row ra 0 9;row rb 9 0;row rc 9 9;");
        x.grid(5);
        x.rather(0, 1);
        for (int i = 1; i < 11; i++) {
            x.rather(0, 2);
        }
        Check.due("none yet", x.quarrel(), 0);
        x.rather(1, 0);
        Check.due("0 and 11", x.quarrel(), 1 + (1 << 11));
        for (int i = 0; i < 11; i++) {
            x.unsay();
        }
        x.rather(0, 1);
        x.rather(1, 0);
        x.rather(1, 0);
        Check.due("0 and 2 ahead of 0 and 3, 1 and 2", x.quarrel(), 1 + 4);
    }

    private static void quarrelOfFour() {
        Check.sentence("Terms IV", "no WEIGHING AGREES");
        // By grid 1 each saying is against but one wish.
        UnbeatenHouse x = Check.of("wish p less;wish q less;wish r less;wish s less;row ra 1 0 0 0;row rb 0 1 0 0;"
                + "row rc 0 0 1 0;row rd 0 0 0 1;row re 0 1 1 1;row rf 1 0 1 1;row rg 1 1 0 1;row rh 1 1 1 0;");
        x.grid(1);
        for (int i = 0; i < 3; i++) {
            x.rather(i, 4 + i);
            Check.due("of " + (i + 1), x.quarrel(), 0);
            Check.due("agree", x.agree(), 3 - i);
        }
        x.rather(3, 7);
        Check.due("all four", x.quarrel(), 15);
        Check.due("none agrees", x.agree(), 0);
        for (int i = 0; i < 8; i++) {
            x.rather(i % 4, 4 + i % 4);
        }
        Check.due("the first four of twelve", x.quarrel(), 15);
    }

    private static void quarrelAsBits() {
        Check.sentence("Promise 33", "A QUARREL: its SAYINGS as bits");
        UnbeatenHouse x = Check.of("wish p less;wish q less;row ra 0 9;row rb 9 0;row rc 9 9;");
        x.grid(5);
        for (int i = 0; i < 10; i++) {
            x.rather(0, 2);
        }
        x.rather(0, 1);
        x.rather(1, 0);
        Check.due("the last two", x.quarrel(), (1 << 10) + (1 << 11));
    }

    // ---- promise 34

    private static void stopRefused() {
        Check.sentence("Promise 34", "STOP by D (0 .. 9999); NONE if D can't be");
        UnbeatenHouse x = Check.of("wish p less;row ra 1;");
        Check.due("stop(0)", x.stop(0), 0);
        Check.due("stop(9999)", x.stop(9999), 0);
        for (int d : new int[] {MIN, -2, -1, 10000, 10001, MAX}) {
            Check.due("stop(" + d + ")", x.stop(d), NONE);
        }
    }

    private static void stopNotMore() {
        Check.sentence("Terms IV", "a WORTH not more than the least one (of these ROWS) and D times G");
        for (int g : new int[] {1, 4, 12}) {
            UnbeatenHouse x = Check.of("wish p less;wish q less;row ra 0 10;row rb 10 0;");
            x.grid(g);
            Check.due("stop(9) by " + g, x.stop(9), NONE);
            Check.due("stop(10) by " + g, x.stop(10), 0);
            UnbeatenHouse y = Check.of("wish p less;wish q more;row ra 0 0;row rb 9999 9999;");
            y.grid(g);
            Check.due("stop(9998) by " + g, y.stop(9998), NONE);
            Check.due("stop(9999) by " + g, y.stop(9999), 0);
        }
        // Three between: by 0 1 and 1 0 rb is 4 behind.
        UnbeatenHouse z = Check.of("wish p less;wish q less;row ra 0 9;row rb 4 4;row rc 9 0;");
        z.grid(1);
        Check.due("stop(3)", z.stop(3), NONE);
        Check.due("stop(4)", z.stop(4), 1);
        Check.due("stop(8)", z.stop(8), 1);
        Check.due("stop(9)", z.stop(9), 0);
    }

    private static void stopOfNone() {
        Check.sentence("Promise 34", "none AGREES, or there is no such ROW");
        UnbeatenHouse x = Check.of("wish p less;row ra 1;row rb 2;");
        x.rather(1, 0);
        Check.due("none agrees", x.stop(9999), NONE);
        x.unsay();
        Check.due("it agrees", x.stop(0), 0);
        Check.due("no rows", Check.of("wish p less;").stop(9999), NONE);
        Check.due("all aside", Check.of("wish p less;row ra?;").stop(9999), NONE);
        Check.due("no wish", new UnbeatenHouse().stop(0), NONE);
    }

    private static void stopFirst() {
        Check.sentence("Terms IV", "STOP by a number D: the first ROW of the FRONT of ROWS that has, "
                + "by each WEIGHING that AGREES");
        UnbeatenHouse x = Check.of("wish p less;wish q less;row ra 9 9;row rb 0 8;row rc 8 0;row rd 0 8;");
        // By 0 4 .. 4 0: rb and rd 32 24 16 8 0, rc 0 8 16 24 32.
        Check.due("beaten ones don't count", x.stop(9999), 1);
        x.rather(2, 1);
        Check.due("rc by all that agree", x.stop(0), 2);
        Check.due("stop(7)", x.stop(7), 2);
        Check.due("rb is 32 behind", x.stop(8), 1);
        x.rather(1, 2);
        Check.due("like by what is left: the first", x.stop(0), 1);
        UnbeatenHouse y = Check.of(Texts.like(40));
        Check.due("like ones: the first", y.stop(0), 0);
        y.change(39, 0, 4);
        Check.due("the last one", y.stop(0), 39);
        Check.due("the front alone", y.stop(9999), 39);
        Check.due("all of it", y.rows() & ALL, 1L << 39);
    }
}
