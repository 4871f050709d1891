/** Terms II and VI and promises 8 to 15 at their edges, a test for each sentence that names one. */
public final class RowsEdgesTest {
    private static final int NONE = UnbeatenHouse.NONE;
    private static final int MIN = Integer.MIN_VALUE;
    private static final int MAX = Integer.MAX_VALUE;
    private static final long ALL = (1L << 40) - 1;
    private static final int[] NO_ROW_OF_FIVE = {MIN, -2, -1, 5, 6, 39, 40, 64, 1 << 30, MAX};
    private static final int[] NO_WISH_OF_TWO = {MIN, -1, 2, 3, 4, 64, MAX};
    // Losses: ra 10 -5, rb 8 -5, rc 12~3 -9, rd aside, re 10 -5~2.
    private static final String FIVE = "wish p less;wish q more;row ra 10 5;row rb 8 5;row rc 12~3 9;row rd?9~7;"
            + "row re 10 5~2;";

    private RowsEdgesTest() {
    }

    public static void main(String[] args) {
        losses();
        beats();
        beatsAside();
        beatsNoneSuch();
        aside();
        pricesOfAll();
        pricesOfNone();
        leadsToTheFirst();
        leadsNowhere();
        leadsFromAll();
        changeSomuch();
        changeRefused();
        spreadStays();
        howManyFellAndCame();
        changedLatest();
        changedWithoutOne();
        rowsAsBits();
        surely();
        maybe();
        unsureFromTo();
        maybeNone();
        sureAndPossible();
        sureAsBits();
        Check.finish("RowsEdgesTest");
    }

    // ---- Terms II

    private static void losses() {
        Check.sentence("Terms II", "What is judged has a LOSS for each WISH: what it has of it (less), "
                + "or 0 less that (more)");
        int[] numbers = {0, 1, 9998, 9999};
        for (int n : numbers) {
            UnbeatenHouse x = Check.of("wish p less;wish q more;row ra " + n + " " + n + ";");
            x.front(0, 0, 0);
            Check.due("less of " + n, x.loss(0, 0), n);
            Check.due("more of " + n, x.loss(0, 1), -n);
        }
    }

    private static void beats() {
        Check.sentence("Terms II", "A BEATS B, if no LOSS of A is greater than that of B, and one is less");
        for (int wishes = 1; wishes <= 4; wishes++) {
            for (int wish = 0; wish < wishes; wish++) {
                for (int lessMore = 0; lessMore < 2; lessMore++) {
                    UnbeatenHouse x = Check.of(beaten(wishes, wish, lessMore == 1));
                    String what = wishes + " wishes, by wish " + wish + ": ";
                    Check.due(what + "like ones", x.beats(0, 1), 0);
                    Check.due(what + "like ones turned", x.beats(1, 0), 0);
                    Check.due(what + "one is less", x.beats(2, 0), 1);
                    Check.due(what + "one is greater", x.beats(0, 2), 0);
                    Check.due(what + "itself", x.beats(2, 2), 0);
                    Check.due(what + "front", x.rows(), 4);
                }
            }
        }
        UnbeatenHouse y = Check.of("wish p less;wish q less;wish r less;wish s less;row ra 5 5 5 5;row rb 0 0 0 6;"
                + "row rc 6 0 0 0;");
        Check.due("one greater behind three less", y.beats(1, 0), 0);
        Check.due("one greater ahead of three less", y.beats(2, 0), 0);
        Check.due("front", y.rows(), 7);
    }

    /** Two like rows, and one that is better by one in one wish. */
    private static String beaten(int wishes, int wish, boolean more) {
        StringBuilder t = new StringBuilder();
        StringBuilder better = new StringBuilder("row rc");
        for (int i = 0; i < wishes; i++) {
            t.append("wish w").append((char) ('a' + i)).append(more ? " more;" : " less;");
            better.append(i == wish ? more ? " 6" : " 4" : " 5");
        }
        return t + "row ra" + " 5".repeat(wishes) + ";row rb" + " 5".repeat(wishes) + ";" + better + ";";
    }

    private static void beatsAside() {
        Check.sentence("Terms II", "A ROW with a ? is ASIDE: it beats nobody and is beaten by nobody");
        for (int wishes = 1; wishes <= 4; wishes++) {
            for (int wish = 0; wish < wishes; wish++) {
                UnbeatenHouse x = Check.of(beaten(wishes, wish, false));
                x.change(2, wish, NONE);
                Check.due("aside beats nobody", x.beats(2, 0), 0);
                Check.due("is beaten by nobody", x.beats(0, 2), 0);
                Check.due("is not on the front", x.rows(), 3);
                Check.due("leads to nobody", x.leads(2), NONE);
                Check.due("nobody leads to it", x.leads(0), NONE);
                Check.due("neither sure", x.unsure(true), 3);
                Check.due("nor possible", x.unsure(false), 3);
            }
        }
    }

    private static void beatsNoneSuch() {
        Check.sentence("Promise 9", "1 if ROW a BEATS ROW b, else 0; NONE if there are none such");
        UnbeatenHouse x = Check.of(FIVE);
        Check.due("rb beats ra", x.beats(1, 0), 1);
        Check.due("ra beats not rb", x.beats(0, 1), 0);
        Check.due("aside is such", x.beats(3, 3), 0);
        for (int row : NO_ROW_OF_FIVE) {
            Check.due(row + ", ra", x.beats(row, 0), NONE);
            Check.due("rb, " + row, x.beats(1, row), NONE);
            Check.due("aside, " + row, x.beats(3, row), NONE);
            Check.due(row + " twice", x.beats(row, row), NONE);
        }
    }

    private static void aside() {
        Check.sentence("Terms II", "THE FRONT: of ROWS: all that are not ASIDE and that no other one beats");
        UnbeatenHouse x = Check.of("wish p less;wish q less;row ra??;row rb 5?;row rc?5;");
        Check.due("all aside", x.rows(), 0);
        Check.due("none on it", x.front(0, 0, 0), 0);
        Check.due("none sure", x.unsure(true), 0);
        Check.due("none possible", x.unsure(false), 0);
        x.change(0, 0, 0);
        Check.due("half of it is not enough", x.rows(), 0);
        x.change(0, 1, 9);
        Check.due("all of it is", x.rows(), 1);
        x.change(1, 1, 9);
        Check.due("beaten by it", x.rows(), 1);
        Check.due("leads to it", x.leads(1), 0);
        Check.due("no row, no front", Check.of("wish p less;").rows(), 0);
    }

    // ---- Promise 8

    private static void pricesOfAll() {
        Check.sentence("Promise 8", "What a ROW has of a WISH (0 .. 9999), or (spread) its SPREAD; NONE if it is a ?");
        UnbeatenHouse x = Check.of("wish p less;wish q more;row ra 0~9999 9999~0;row rb?9999;row rc 0?;");
        int[][] prices = {{0, 9999}, {NONE, 9999}, {0, NONE}};
        int[][] spreads = {{9999, 0}, {NONE, 0}, {0, NONE}};
        for (int row = 0; row < 3; row++) {
            for (int wish = 0; wish < 2; wish++) {
                Check.due("price " + row + " " + wish, x.price(row, wish, false), prices[row][wish]);
                Check.due("spread " + row + " " + wish, x.price(row, wish, true), spreads[row][wish]);
            }
        }
        UnbeatenHouse y = Check.of(Texts.stair(40));
        Check.due("the last row", y.price(39, 1, false), 39);
    }

    private static void pricesOfNone() {
        Check.sentence("Promise 8", "or there is none such");
        UnbeatenHouse x = Check.of(FIVE);
        for (int turn = 0; turn < 2; turn++) {
            for (int row : NO_ROW_OF_FIVE) {
                Check.due("row " + row, x.price(row, 1, turn == 1), NONE);
            }
            for (int wish : NO_WISH_OF_TWO) {
                Check.due("wish " + wish, x.price(0, wish, turn == 1), NONE);
            }
            Check.due("neither", x.price(5, 2, turn == 1), NONE);
        }
        Check.due("a wish without rows", Check.of("wish p less;").price(0, 0, false), NONE);
    }

    // ---- Promise 10

    private static void leadsToTheFirst() {
        Check.sentence("Terms II", "LEADS to the first ROW (by numbers) of the FRONT of ROWS that beats it");
        // rb, rc and rd beat ra; rb is beaten itself, by re, which does not beat ra.
        UnbeatenHouse x = Check.of("wish p less;wish q less;row ra 9 9;row rb 8 9;row rc 7 8;row rd 8 7;row re 9 0;");
        Check.due("rb beats ra", x.beats(1, 0), 1);
        Check.due("rb is beaten", x.leads(1), 2);
        Check.due("the first of the front", x.leads(0), 2);
        x.change(2, 0, NONE);
        Check.due("the next one", x.leads(0), 3);
        x.change(3, 0, NONE);
        Check.due("rb then", x.leads(0), 1);
        x.change(1, 0, NONE);
        Check.due("re then", x.leads(0), 4);
        x.change(4, 0, NONE);
        Check.due("none then", x.leads(0), NONE);
        UnbeatenHouse y = Check.of("wish p less;row ra 1;row rb 2;row rc 1;row rd 3;");
        Check.due("like ones: the first", y.leads(1), 0);
        Check.due("not by the one between", y.leads(3), 0);
        Check.due("like ones don't lead", y.leads(2), NONE);
    }

    private static void leadsNowhere() {
        Check.sentence("Promise 10", "NONE if it is not beaten, or there is none such");
        UnbeatenHouse x = Check.of(FIVE);
        int[] due = {1, NONE, NONE, NONE, 1};
        for (int row = 0; row < 5; row++) {
            Check.due("leads(" + row + ")", x.leads(row), due[row]);
        }
        for (int row : NO_ROW_OF_FIVE) {
            Check.due("leads(" + row + ")", x.leads(row), NONE);
        }
    }

    private static void leadsFromAll() {
        Check.sentence("Promise 10", "The ROW to which a ROW LEADS");
        UnbeatenHouse x = Check.of(Texts.stair(40));
        x.change(39, 0, 0);
        for (int row = 0; row < 40; row++) {
            Check.due("to the last row: " + row, x.leads(row), row < 39 ? 39 : NONE);
        }
        x.change(0, 1, 9999);
        for (int row = 0; row < 40; row++) {
            Check.due("to the first row: " + row, x.leads(row), row > 0 ? 0 : NONE);
        }
    }

    // ---- Promises 11 and 12

    private static void changeSomuch() {
        Check.sentence("Promise 11", "A ROW has so much of a WISH (0 .. 9999; NONE: a ?)");
        UnbeatenHouse x = Check.of(FIVE);
        for (int n : new int[] {0, 1, 9998, 9999, NONE, 5}) {
            for (int wish = 0; wish < 2; wish++) {
                Check.due("change to " + n, x.change(4, wish, n) >= 0, true);
                Check.due("it has so much", x.price(4, wish, false), n);
            }
            Check.due("aside", x.maybe(4, 0) == NONE, n == NONE);
            Check.due("no other one's", x.price(0, 0, false), 10);
            Check.due("nor that", x.price(0, 1, false), 5);
        }
    }

    private static void changeRefused() {
        Check.sentence("Promise 11", "NONE if something can't be (then nothing is changed)");
        UnbeatenHouse x = Check.of(FIVE);
        x.change(1, 0, 20);
        Check.due("fell ahead", x.changed(false), 1 << 1);
        Check.due("came ahead", x.changed(true), 1 + (1 << 4));
        for (int n : new int[] {MIN, -10000, -3, -2, 10000, 10001, MAX}) {
            Check.due("change to " + n, x.change(0, 0, n), NONE);
        }
        for (int row : NO_ROW_OF_FIVE) {
            Check.due("row " + row, x.change(row, 0, 0), NONE);
            Check.due("row " + row + " to a ?", x.change(row, 1, NONE), NONE);
        }
        for (int wish : NO_WISH_OF_TWO) {
            Check.due("wish " + wish, x.change(0, wish, 0), NONE);
            Check.due("wish " + wish + " to a ?", x.change(0, wish, NONE), NONE);
        }
        int[][] prices = {{10, 5}, {20, 5}, {12, 9}, {NONE, 9}, {10, 5}};
        int[][] spreads = {{0, 0}, {0, 0}, {3, 0}, {NONE, 7}, {0, 2}};
        for (int row = 0; row < 5; row++) {
            for (int wish = 0; wish < 2; wish++) {
                Check.due("price " + row + " " + wish, x.price(row, wish, false), prices[row][wish]);
                Check.due("spread " + row + " " + wish, x.price(row, wish, true), spreads[row][wish]);
            }
        }
        Check.due("rows", x.rows(), 1 + 4 + 16);
        Check.due("fell", x.changed(false), 1 << 1);
        Check.due("came", x.changed(true), 1 + (1 << 4));
    }

    private static void spreadStays() {
        Check.sentence("Promise 11", "its SPREAD stays (of a ? 0)");
        UnbeatenHouse x = Check.of(FIVE);
        for (int n : new int[] {0, 9999, 12}) {
            x.change(2, 0, n);
            Check.due("of " + n, x.price(2, 0, true), 3);
        }
        x.change(3, 0, 4);
        Check.due("of what was a ? in the text", x.price(3, 0, true), 0);
        Check.due("beside it", x.price(3, 1, true), 7);
        x.change(2, 0, NONE);
        Check.due("a ? has none", x.price(2, 0, true), NONE);
        x.change(2, 0, NONE);
        x.change(2, 0, 12);
        Check.due("of what was changed to a ?", x.price(2, 0, true), 0);
        // So nothing of it is unsure any more: rc is 12 -9 for sure.
        x.change(0, 0, 13);
        x.change(0, 1, 9);
        Check.due("rc surely beats ra", x.maybe(2, 0), 2);
    }

    private static void howManyFellAndCame() {
        Check.sentence("Promise 11", "how many FELL and CAME");
        UnbeatenHouse x = Check.of(Texts.stair(40));
        Check.due("to what it has", x.change(7, 0, 7), 0);
        Check.due("one that falls", x.change(7, 0, 9), 1);
        Check.due("it stays beaten", x.change(7, 0, 10), 0);
        Check.due("one that comes", x.change(7, 0, 7), 1);
        Check.due("one that goes aside", x.change(7, 1, NONE), 1);
        Check.due("it stays aside", x.change(7, 0, NONE), 0);
        Check.due("it stays aside by the other one", x.change(7, 1, 7), 0);
        Check.due("one that comes back", x.change(7, 0, 7), 1);
        Check.due("39 that fall", x.change(39, 0, 0), 39);
        Check.due("it goes, 39 come", x.change(39, 0, NONE), 40);
        Check.due("fell", x.changed(false), 1L << 39);
        Check.due("came", x.changed(true), ALL >> 1);
        Check.due("it comes, 39 fall", x.change(39, 0, 0), 40);
        Check.due("fell", x.changed(false), ALL >> 1);
        Check.due("came", x.changed(true), 1L << 39);
        Check.due("it comes alone", Check.of("wish p less;row ra?;").change(0, 0, 0), 1);
        // Beaten rows are not those that fell, be they beaten by another one then.
        UnbeatenHouse y = Check.of("wish p less;row ra 5;row rb 3;row rc 4;");
        Check.due("rb falls, rc comes", y.change(1, 0, 9), 2);
        Check.due("fell", y.changed(false), 2);
        Check.due("came", y.changed(true), 4);
    }

    private static void changedLatest() {
        Check.sentence("Promise 12", "Of the latest change() that was not NONE: the ROWS that FELL (came false) "
                + "or CAME, as bits");
        UnbeatenHouse x = Check.of(Texts.stair(40));
        for (int row : new int[] {0, 30, 31, 32, 38, 39}) {
            x.change(row, 0, NONE);
            Check.due("fell " + row, x.changed(false), 1L << row);
            Check.due("none came", x.changed(true), 0);
            Check.due("refused", x.change(row, 0, -2), NONE);
            Check.due("it stays", x.changed(false), 1L << row);
            x.change(row, 0, row);
            Check.due("none fell", x.changed(false), 0);
            Check.due("came " + row, x.changed(true), 1L << row);
            x.front(0, 0, 0);
            x.rather(0, 1);
            Check.due("it stays by other calls", x.changed(true), 1L << row);
        }
    }

    private static void changedWithoutOne() {
        Check.sentence("Promise 12", "(0 without one)");
        UnbeatenHouse x = Check.of(FIVE);
        Check.due("fell", x.changed(false), 0);
        Check.due("came", x.changed(true), 0);
        x.change(9, 9, 9);
        Check.due("refused alone", x.changed(false) | x.changed(true), 0);
        x.change(1, 0, 20);
        x.change(1, 0, 21);
        Check.due("the latest changed nothing", x.changed(false) | x.changed(true), 0);
    }

    // ---- Promises 13 to 15

    private static void rowsAsBits() {
        Check.sentence("Promise 13", "The ROWS of the FRONT of ROWS, as bits");
        for (int n : new int[] {0, 1, 31, 32, 33, 39, 40}) {
            Check.due(n + " rows", Check.of(Texts.stair(n)).rows(), (1L << n) - 1);
        }
        UnbeatenHouse x = Check.of(Texts.stair(40));
        for (int row : new int[] {0, 31, 32, 39}) {
            x.change(row, 0, NONE);
            Check.due("without " + row, x.rows(), ALL & ~(1L << row));
            x.change(row, 0, row);
            Check.due("with it", x.rows(), ALL);
        }
    }

    private static void surely() {
        Check.sentence("Terms VI", "A SURELY beats B, if it BEATS it whatever they have");
        UnbeatenHouse x = Check.of("wish p less;wish q less;row ra 10~2 5;row rb 12 5;row rc 13 5;row rd 13~1 5;"
                + "row re 14~1 5;row rf 12 6;");
        Check.due("12 at most, 12: perhaps like", x.maybe(0, 1), 1);
        Check.due("12 at most, 13", x.maybe(0, 2), 2);
        Check.due("12 at most, 12 at least", x.maybe(0, 3), 1);
        Check.due("12 at most, 13 at least", x.maybe(0, 4), 2);
        Check.due("like at most, and less of the other one", x.maybe(0, 5), 2);
        Check.due("without spreads like beats()", x.maybe(1, 2), 2);
        UnbeatenHouse y = Check.of("wish p more;row ra 10~2;row rb 8;row rc 7;row rd 7~1;");
        Check.due("8 at least, 8", y.maybe(0, 1), 1);
        Check.due("8 at least, 7", y.maybe(0, 2), 2);
        Check.due("8 at least, 8 at most", y.maybe(0, 3), 1);
    }

    private static void maybe() {
        Check.sentence("Terms VI", "MAYBE, if for something that they have");
        UnbeatenHouse x = Check.of("wish p less;wish q less;row ra 10~2 5;row rb 8 5;row rc 9 5;row rd 7~1 5;row re 7~2 5;"
                + "row rf 8 6;row rg 9~1 4;");
        Check.due("8 at least, 8", x.maybe(0, 1), 0);
        Check.due("8 at least, 9", x.maybe(0, 2), 1);
        Check.due("8 at least, 8 at most", x.maybe(0, 3), 0);
        Check.due("8 at least, 9 at most", x.maybe(0, 4), 1);
        Check.due("8 at least, 8, less of the other one", x.maybe(0, 5), 1);
        Check.due("8 at least, but more of the other one", x.maybe(0, 6), 0);
    }

    private static void unsureFromTo() {
        Check.sentence("Terms VI", "UNSURE: of a WISH a ROW has from its NUMBER less SPREAD to its NUMBER and SPREAD");
        // Though the one be below 0, and the other above 9999.
        UnbeatenHouse x = Check.of("wish p less;wish q less;row ra 0~1 5;row rb 0 5;row rc 9999~1 5;row rd 9999 5;"
                + "row re 0~9999 9999~9999;row rf 0 0;");
        Check.due("below 0", x.maybe(0, 1), 1);
        Check.due("not surely", x.maybe(1, 0), 1);
        Check.due("above 9999", x.maybe(3, 2), 1);
        Check.due("not below 9999", x.maybe(2, 3), 1);
        Check.due("from -9999 and 0", x.maybe(4, 5), 1);
        Check.due("to 9999 and 19998", x.maybe(5, 4), 1);
        Check.due("surely for all that", x.maybe(5, 2), 2);
    }

    private static void maybeNone() {
        Check.sentence("Promise 15", "NONE if there are none such, one is ASIDE, or they are the same");
        UnbeatenHouse x = Check.of(FIVE);
        for (int row = 0; row < 5; row++) {
            Check.due("the same", x.maybe(row, row), NONE);
            Check.due("aside behind", x.maybe(row, 3), NONE);
            Check.due("aside ahead", x.maybe(3, row), NONE);
            for (int none : NO_ROW_OF_FIVE) {
                Check.due("none such behind", x.maybe(row, none), NONE);
                Check.due("none such ahead", x.maybe(none, row), NONE);
            }
        }
        Check.due("rb, ra", x.maybe(1, 0), 2);
        Check.due("ra, rb", x.maybe(0, 1), 0);
        Check.due("ra, re", x.maybe(0, 4), 1);
        x.change(3, 0, 0);
        Check.due("aside no more", x.maybe(3, 0), 1);
        x.change(1, 1, NONE);
        Check.due("aside now", x.maybe(1, 0), NONE);
    }

    private static void sureAndPossible() {
        Check.sentence("Terms VI", "SURE are ROWS (not ASIDE) that none MAYBE beats; POSSIBLE those that none SURELY beats");
        UnbeatenHouse x = Check.of("wish p less;row ra 10~2;row rb 12;row rc 13;row rd 8;row re?;");
        // ra 8 .. 12; rd 8 may be less, and 8 is the least that ra may be.
        Check.due("none maybe beats rd", x.unsure(true), 8);
        Check.due("ra may be like rd", x.unsure(false), 1 + 8);
        x.change(3, 0, 7);
        Check.due("rd is less for sure", x.unsure(false), 8);
        x.change(3, 0, 12);
        Check.due("ra, or rb and rd", x.unsure(false), 1 + 2 + 8);
        Check.due("rb and rd may be more", x.unsure(true), 1);
        x.change(3, 0, 11);
        Check.due("ra may be more than rd", x.unsure(true), 0);
        Check.due("ra and rd", x.unsure(false), 1 + 8);
        Check.due("one alone is both", Check.of("wish p less;row ra 5~5;").unsure(true), 1);
        // One does not beat itself, and like ones don't beat each other.
        UnbeatenHouse y = Check.of("wish p less;row ra 5;row rb 5;row rc 5~1;");
        Check.due("like ones", y.unsure(true), 0);
        Check.due("like ones are possible", y.unsure(false), 7);
        y.change(2, 0, NONE);
        Check.due("like ones are sure", y.unsure(true), 3);
        y.change(2, 0, 5);
        Check.due("without a spread", y.unsure(true), 7);
    }

    private static void sureAsBits() {
        Check.sentence("Promise 14", "The ROWS that are SURE (sure true) or POSSIBLE, as bits");
        for (int n : new int[] {0, 1, 31, 32, 33, 40}) {
            UnbeatenHouse x = Check.of(Texts.stair(n));
            Check.due(n + " sure", x.unsure(true), (1L << n) - 1);
            Check.due(n + " possible", x.unsure(false), (1L << n) - 1);
        }
        UnbeatenHouse x = Check.of(Texts.stair(40).replace("39 39;", "39~40 39;"));
        Check.due("the last one may beat all others", x.unsure(true), 1L << 39);
        Check.due("all are possible", x.unsure(false), ALL);
        x.change(32, 0, 0);
        Check.due("32 surely beats all below", x.unsure(false), ALL & ~((1L << 32) - 1));
        Check.due("and is beaten by the last one, maybe", x.unsure(true), 1L << 39);
    }
}
