/** Terms V and promises 35 to 39 at their edges, a test for each sentence that names one. */
public final class PeopleEdgesTest {
    private static final int NONE = UnbeatenHouse.NONE;
    private static final int MIN = Integer.MIN_VALUE;
    private static final int MAX = Integer.MAX_VALUE;
    private static final int[] NOBODY = {MIN, -2, -1, 6, 7, 40, 64, MAX};
    private static final int[] NO_RULE = {MIN, -1, 4, 5, MAX};

    private PeopleEdgesTest() {
    }

    public static void main(String[] args) {
        peopleNoughtToFive();
        weightsNoughtToNine();
        wishesNotThere();
        noneAnyMore();
        personRefused();
        barsOfNone();
        barsOnAndOff();
        barsWithoutWeights();
        nobodyBars();
        noSuchRule();
        nobodyHasWeights();
        noneToChoose();
        mostOften();
        together();
        greatestPlace();
        moreThanHalf();
        likeOnes();
        breaksNothing();
        breaksOne();
        breaksTwo();
        breaksFour();
        breaksNone();
        oneAlone();
        lastOfForty();
        placesFromNoughtOn();
        placeOfNone();
        Check.finish("PeopleEdgesTest");
    }

    /** One wish a row, of which it alone has 1: so the more weight, the less its place. */
    private static UnbeatenHouse four() {
        return Check.of("wish a more;wish b more;wish c more;wish d more;row ra 1 0 0 0;row rb 0 1 0 0;row rc 0 0 1 0;"
                + "row rd 0 0 0 1;");
    }

    /** Of those four rows, the orders of people from the first on, as letters. */
    private static UnbeatenHouse ordered(String... orders) {
        UnbeatenHouse x = four();
        for (int person = 0; person < orders.length; person++) {
            int[] weights = new int[4];
            for (int place = 0; place < 4; place++) {
                weights[orders[person].charAt(place) - 'a'] = 4 - place;
            }
            boolean given = x.person(person, weights[0], weights[1], weights[2], weights[3]);
            Check.due("weights of " + orders[person], given, true);
        }
        return x;
    }

    private static void barTo(UnbeatenHouse x, int rows) {
        for (int row = rows; row < 4; row++) {
            x.bar(5, row, true);
        }
    }

    // ---- promise 35

    private static void peopleNoughtToFive() {
        Check.sentence("Terms V", "PEOPLE 0 .. 5");
        UnbeatenHouse x = four();
        for (int person = 0; person < 6; person++) {
            Check.due("person " + person, x.person(person, 0, 1, 0, 0), true);
            Check.due("has weights", x.place(person, 1), 0);
            Check.due("bars", x.bar(person, 3, true), true);
        }
        for (int nobody : NOBODY) {
            Check.due("person " + nobody, x.person(nobody, 0, 1, 0, 0), false);
            Check.due("none any more", x.person(nobody, 0, 0, 0, 0), false);
            Check.due("no place", x.place(nobody, 1), NONE);
            Check.due("bars " + nobody, x.bar(nobody, 1, true), false);
        }
        Check.due("six of them", x.choose(3), 1);
    }

    private static void weightsNoughtToNine() {
        Check.sentence("Terms V", "weights (0 .. 9 for each WISH, not all 0)");
        for (int wish = 0; wish < 4; wish++) {
            UnbeatenHouse x = four();
            for (int weight : new int[] {1, 2, 8, 9}) {
                int[] w = new int[4];
                w[wish] = weight;
                Check.due("a weight of " + weight, x.person(0, w[0], w[1], w[2], w[3]), true);
                Check.due("by it alone", x.choose(0), wish);
            }
            for (int weight : new int[] {MIN, -9, -1, 10, 11, 16, 256, MAX}) {
                int[] w = {1, 1, 1, 1};
                w[wish] = weight;
                Check.due("a weight of " + weight, x.person(0, w[0], w[1], w[2], w[3]), false);
                Check.due("nothing is changed", x.choose(0), wish);
            }
            Check.due("all 9", x.person(0, 9, 9, 9, 9), true);
            Check.due("like ones", x.choose(0), 0);
        }
        // The greatest worths there are.
        UnbeatenHouse y = Check.of("wish p less;wish q less;wish r more;wish s more;row ra 9999 9998 0 0;"
                + "row rb 9998 9999 0 0;row rc 9999 9999 1 0;row rd 9999 9999 0 1;");
        y.person(0, 9, 8, 0, 0);
        Check.due("by 9 times 9999", y.choose(0), 1);
        y.person(0, 8, 9, 0, 0);
        Check.due("the other way", y.choose(0), 0);
        y.person(0, 0, 0, 0, 9);
        Check.due("by the last", y.choose(0), 3);
    }

    private static void wishesNotThere() {
        Check.sentence("Promise 35", "(those of WISHES that are not there must be 0");
        String[] wishes = {"wish p less;", "wish q less;", "wish r less;", "wish s less;"};
        StringBuilder t = new StringBuilder();
        for (int n = 0; n <= 4; n++) {
            UnbeatenHouse x = Check.of(t.toString());
            for (int wish = 0; wish < 4; wish++) {
                for (int weight : new int[] {1, 9}) {
                    int[] w = new int[4];
                    w[wish] = weight;
                    Check.due(n + " wishes, a weight of wish " + wish, x.person(0, w[0], w[1], w[2], w[3]), wish < n);
                }
                int[] all = {n > 0 ? 1 : 0, n > 1 ? 1 : 0, n > 2 ? 1 : 0, n > 3 ? 1 : 0};
                Check.due("of all that are there", x.person(1, all[0], all[1], all[2], all[3]), true);
                all[wish] = -1;
                Check.due("and one below 0", x.person(1, all[0], all[1], all[2], all[3]), false);
            }
            Check.due("all 0", x.person(0, 0, 0, 0, 0), true);
            if (n < 4) {
                t.append(wishes[n]);
            }
        }
    }

    private static void noneAnyMore() {
        Check.sentence("Promise 35", "all 0: none any more)");
        UnbeatenHouse x = ordered("abcd", "dcba");
        x.bar(0, 1, true);
        Check.due("two", x.choose(3), NONE);
        Check.due("all 0", x.person(0, 0, 0, 0, 0), true);
        Check.due("one is left", x.choose(3), 3);
        Check.due("no place", x.place(0, 0), NONE);
        Check.due("its bar stays", x.place(1, 1), NONE);
        Check.due("all 0 again", x.person(0, 0, 0, 0, 0), true);
        Check.due("of one that had none", x.person(4, 0, 0, 0, 0), true);
        Check.due("the other one, too", x.person(1, 0, 0, 0, 0), true);
        Check.due("nobody", x.choose(0), NONE);
        Check.due("weights again", x.person(0, 1, 0, 0, 0), true);
        Check.due("one", x.choose(3), 0);
    }

    private static void personRefused() {
        Check.sentence("Promise 35", "true; false if something can't be");
        UnbeatenHouse x = Check.of("wish p less;wish q less;row ra 0 9;row rb 9 0;");
        x.person(3, 1, 0, 0, 0);
        Check.due("a weight too much", x.person(3, 0, 10, 0, 0), false);
        Check.due("one below", x.person(3, 0, -1, 0, 0), false);
        Check.due("of no wish", x.person(3, 0, 1, 1, 0), false);
        Check.due("of no wish", x.person(3, 0, 1, 0, 1), false);
        Check.due("of no wish, below", x.person(3, 0, 1, 0, -1), false);
        Check.due("nobody", x.person(6, 0, 1, 0, 0), false);
        Check.due("the weights stay", x.choose(0), 0);
        Check.due("no other one has any", x.choose(3), 0);
    }

    // ---- promise 36

    private static void barsOfNone() {
        Check.sentence("Promise 36", "true; false if there are none such");
        UnbeatenHouse x = four();
        x.person(0, 4, 3, 2, 1);
        for (boolean on : new boolean[] {true, false}) {
            for (int row : new int[] {MIN, -1, 4, 5, 39, 40, 63, 64, 65, MAX}) {
                Check.due("row " + row, x.bar(0, row, on), false);
            }
            for (int nobody : NOBODY) {
                Check.due("person " + nobody, x.bar(nobody, 0, on), false);
                Check.due("neither", x.bar(nobody, 4, on), false);
            }
        }
        for (int row = 0; row < 4; row++) {
            Check.due("none is barred", x.place(0, row), row);
        }
        Check.due("no rows", Check.of("wish p less;").bar(0, 0, true), false);
        UnbeatenHouse y = Check.of("wish p less;row ra 1;row rb 2;row rc?;");
        Check.due("a beaten one", y.bar(0, 1, true), true);
        Check.due("one that is aside", y.bar(0, 2, true), true);
    }

    private static void barsOnAndOff() {
        Check.sentence("Promise 36", "One of the PEOPLE bars a ROW, or does so no more");
        UnbeatenHouse x = Check.of(Texts.stair(40));
        x.person(0, 1, 0, 0, 0);
        for (int row : new int[] {0, 31, 32, 39}) {
            x.bar(5, row, true);
            Check.due("barred", x.place(0, row), NONE);
            Check.due("barred again", x.bar(5, row, true), true);
            Check.due("those behind come up", x.place(0, 38), row < 38 ? 37 : 38);
            Check.due("no more", x.bar(5, row, false), true);
            Check.due("it has its place", x.place(0, row), row);
            Check.due("no more again", x.bar(5, row, false), true);
        }
        for (int person = 0; person < 6; person++) {
            x.bar(person, 0, true);
        }
        for (int person = 0; person < 6; person++) {
            Check.due("barred by some", x.choose(0), 1);
            x.bar(person, 0, false);
        }
        Check.due("by nobody", x.choose(0), 0);
        x.bar(0, 39, true);
        x.change(39, 0, 0);
        Check.due("one alone on the front, barred", x.choose(0), NONE);
        x.bar(0, 39, false);
        Check.due("and not", x.choose(0), 39);
    }

    private static void barsWithoutWeights() {
        Check.sentence("Terms V", "each may have weights .. , and bars some ROWS");
        UnbeatenHouse x = ordered("abcd");
        x.bar(4, 0, true);
        Check.due("barred by one without weights", x.choose(0), 1);
        x.bar(0, 1, true);
        Check.due("barred by the one with weights", x.choose(0), 2);
        x.bar(4, 1, false);
        Check.due("another one's bar stays", x.choose(0), 2);
    }

    private static void nobodyBars() {
        Check.sentence("Terms V", "The CHOICE goes among the ROWS of the FRONT of ROWS that nobody bars");
        UnbeatenHouse x = Check.of("wish p less;wish q less;row ra 0 9;row rb 9 0;row rc 9 1;row rd?0;");
        x.person(0, 0, 1, 0, 0);
        Check.due("rb", x.choose(0), 1);
        x.bar(0, 1, true);
        // The beaten one is not on the front, though rb is barred.
        Check.due("ra, not rc", x.choose(0), 0);
        Check.due("rc has no place", x.place(0, 2), NONE);
        x.change(1, 0, NONE);
        Check.due("rc comes", x.choose(0), 2);
        x.bar(3, 2, true);
        x.bar(3, 0, true);
        Check.due("none is left", x.choose(0), NONE);
    }

    // ---- promise 37

    private static void noSuchRule() {
        Check.sentence("Promise 37", "The CHOICE by a RULE (0 .. 3): its ROW; NONE if the RULE can't be");
        UnbeatenHouse x = ordered("badc");
        for (int rule = 0; rule < 4; rule++) {
            Check.due("rule " + rule, x.choose(rule), 1);
            Check.due("breaks " + rule, x.breaks(rule), 0);
        }
        for (int rule : NO_RULE) {
            Check.due("rule " + rule, x.choose(rule), NONE);
            Check.due("breaks " + rule, x.breaks(rule), NONE);
        }
    }

    private static void nobodyHasWeights() {
        Check.sentence("Promise 37", "nobody has weights");
        UnbeatenHouse x = four();
        for (int turn = 0; turn < 2; turn++) {
            for (int rule = 0; rule < 4; rule++) {
                Check.due("rule " + rule, x.choose(rule), NONE);
                Check.due("breaks " + rule, x.breaks(rule), NONE);
            }
            x.person(2, 1, 0, 0, 0);
            Check.due("somebody", x.choose(0), 0);
            x.person(2, 0, 0, 0, 0);
        }
    }

    private static void noneToChoose() {
        Check.sentence("Promise 37", "or there is none");
        UnbeatenHouse x = ordered("abcd");
        barTo(x, 0);
        UnbeatenHouse y = Check.of("wish p less;row ra?;");
        y.person(0, 1, 0, 0, 0);
        UnbeatenHouse z = Check.of("wish p less;");
        z.person(0, 1, 0, 0, 0);
        for (int rule = 0; rule < 4; rule++) {
            Check.due("all barred", x.choose(rule), NONE);
            Check.due("all aside", y.choose(rule), NONE);
            Check.due("no rows", z.choose(rule), NONE);
        }
        Check.due("a ring", ordered("abcd", "bcad", "cabd").choose(3), NONE);
    }

    private static void mostOften() {
        Check.sentence("Terms V", "0 who is in place 0 most often");
        Check.due("once of one", ordered("dabc").choose(0), 3);
        Check.due("twice of three", ordered("abcd", "cabd", "cbad").choose(0), 2);
        Check.due("three of six", ordered("abcd", "abcd", "dbca", "dbca", "dbca", "bacd").choose(0), 3);
        Check.due("never last counts nothing", ordered("bacd", "cadb", "dabc", "bacd").choose(0), 1);
    }

    private static void together() {
        Check.sentence("Terms V", "1 whose places together are least");
        // Places together: a 6, b 5, c 6, d 7.
        Check.due("b by one", ordered("abdc", "cbda", "dbac", "cabd").choose(1), 1);
        Check.due("never first", ordered("bacd", "cabd", "dabc").choose(1), 0);
        Check.due("only the last one", ordered("dabc", "dbca").choose(1), 3);
    }

    private static void greatestPlace() {
        Check.sentence("Terms V", "2 whose greatest place is least");
        Check.due("a is once last", ordered("abcd", "abcd", "abcd", "bcda").choose(2), 1);
        Check.due("never last", ordered("abdc", "cbda", "dbac").choose(2), 1);
        Check.due("always first", ordered("dabc", "dcba").choose(2), 3);
    }

    private static void moreThanHalf() {
        Check.sentence("Terms V", "3 who is ahead of each other one with more than half of the PEOPLE");
        Check.due("one of one", ordered("cabd").choose(3), 2);
        Check.due("one of two", ordered("cabd", "acbd").choose(3), NONE);
        Check.due("two of two", ordered("cabd", "cbda").choose(3), 2);
        Check.due("two of three", ordered("cabd", "cbda", "abdc").choose(3), 2);
        Check.due("two of four", ordered("cabd", "cbda", "abdc", "abcd").choose(3), NONE);
        Check.due("three of four", ordered("cabd", "cbda", "abdc", "cabd").choose(3), 2);
        Check.due("three of five", ordered("cabd", "cbda", "abdc", "cabd", "abcd").choose(3), 2);
        Check.due("three of six", ordered("cabd", "cbda", "abdc", "cabd", "abcd", "abcd").choose(3), NONE);
        Check.due("four of six", ordered("cabd", "cbda", "abdc", "cabd", "cabd", "abcd").choose(3), 2);
        // Ahead of all but one of them is not enough.
        Check.due("not of each", ordered("abcd", "abcd", "dabc", "dacb", "dbca").choose(3), 3);
        Check.due("of those with weights", ordered("cabd").choose(3), 2);
    }

    private static void likeOnes() {
        Check.sentence("Terms V", "each orders them by WORTH, of like ones by number .. Of like ones the least ROW");
        UnbeatenHouse x = ordered("dcba", "cdab");
        Check.due("rule 0: c and d", x.choose(0), 2);
        Check.due("rule 1: c and d", x.choose(1), 2);
        Check.due("rule 2: c and d", x.choose(2), 2);
        UnbeatenHouse y = four();
        y.person(0, 1, 1, 1, 1);
        for (int row = 0; row < 4; row++) {
            Check.due("like worths", y.place(0, row), row);
        }
        for (int rule = 0; rule < 4; rule++) {
            Check.due("rule " + rule, y.choose(rule), 0);
        }
        y.person(0, 0, 0, 0, 1);
        int[] places = {1, 2, 3, 0};
        for (int row = 0; row < 4; row++) {
            Check.due("three like worths", y.place(0, row), places[row]);
        }
        // Forty of them, by number and against it.
        UnbeatenHouse z = Check.of(Texts.stair(40));
        z.person(0, 1, 0, 0, 0);
        z.person(1, 0, 1, 0, 0);
        Check.due("rule 0: 0 and 39", z.choose(0), 0);
        Check.due("rule 1: all have 39", z.choose(1), 0);
        Check.due("rule 2: 19 and 20", z.choose(2), 19);
        Check.due("rule 3: one of two", z.choose(3), NONE);
    }

    // ---- promise 38

    private static void breaksNothing() {
        Check.sentence("Promise 38", "What a RULE (0 .. 3) BREAKS, as bits added up");
        UnbeatenHouse x = ordered("abcd", "abdc", "acbd");
        for (int rule = 0; rule < 4; rule++) {
            Check.due("rule " + rule, x.choose(rule), 0);
            Check.due("breaks nothing", x.breaks(rule), 0);
        }
        // None is ahead of each, so it can't be another one.
        UnbeatenHouse y = ordered("abcd", "bcad", "cabd");
        Check.due("a ring", y.breaks(0), 0);
    }

    private static void breaksOne() {
        Check.sentence("Terms V", "1 if there is one by RULE 3, and it is another one");
        // a is first most often, like c; b is ahead of each; c is not ahead of a.
        UnbeatenHouse x = ordered("abcd", "abcd", "bacd", "cbad", "cbad");
        Check.due("rule 0", x.choose(0), 0);
        Check.due("rule 3", x.choose(3), 1);
        Check.due("breaks 1", x.breaks(0), 1);
        Check.due("rule 3 never breaks it", x.breaks(3), 0);
    }

    private static void breaksTwo() {
        Check.sentence("Terms V", "2 if each other one is ahead of the chosen one with more than half of the PEOPLE");
        // Three of five have a last; b, c and d are a ring.
        UnbeatenHouse x = ordered("abcd", "acdb", "bcda", "cdba", "dbca");
        Check.due("rule 0", x.choose(0), 0);
        Check.due("no one is ahead of each", x.choose(3), NONE);
        Check.due("breaks 2", x.breaks(0), 2);
        // With a sixth one three are half, not more: and those who are first, too, are twice as many.
        UnbeatenHouse y = ordered("abcd", "acdb", "bcda", "cdba", "dbca", "adbc");
        Check.due("rule 0", y.choose(0), 0);
        Check.due("half is not more", y.breaks(0), 0);
        // All but one is not each.
        UnbeatenHouse z = ordered("abcd", "acdb", "bcad", "cbad", "dbca");
        Check.due("rule 0", z.choose(0), 0);
        Check.due("d is not ahead of a", z.breaks(0) & 2, 0);
    }

    private static void breaksFour() {
        Check.sentence("Terms V", "4 if it would not be that one, were the ROWS that are never in place 0 not there");
        // b is never first, and chosen.
        UnbeatenHouse x = ordered("abcd", "cbda", "dbca");
        Check.due("rule 1", x.choose(1), 1);
        Check.due("breaks 4", x.breaks(1), 4);
        Check.due("rule 2, too", x.breaks(2), 4);
        Check.due("rule 3, too", x.breaks(3), 4);
        // Places together: c 2, a 4; without b and d, which are never first, both 2.
        UnbeatenHouse y = ordered("cbad", "cbad", "acbd", "acbd");
        Check.due("rule 1", y.choose(1), 2);
        Check.due("it would be a", y.breaks(1), 4);
        Check.due("rule 0 takes a", y.choose(0), 0);
        Check.due("rule 0 does not look at it", y.breaks(0), 0);
    }

    private static void breaksNone() {
        Check.sentence("Promise 38", "NONE if choose() is");
        UnbeatenHouse x = ordered("abcd", "bcad", "cabd");
        Check.due("rule 3 of a ring", x.breaks(3), NONE);
        barTo(x, 0);
        for (int rule = -1; rule <= 4; rule++) {
            Check.due("all barred", x.breaks(rule), NONE);
        }
    }

    private static void oneAlone() {
        Check.sentence("Terms V", "(and there is another one)");
        for (int row = 0; row < 4; row++) {
            UnbeatenHouse x = ordered("abcd", "dcba", "bdac");
            for (int other = 0; other < 4; other++) {
                x.bar(0, other, other != row);
            }
            for (int rule = 0; rule < 4; rule++) {
                Check.due("one alone, rule " + rule, x.choose(rule), row);
                Check.due("breaks nothing", x.breaks(rule), 0);
            }
        }
        UnbeatenHouse y = Check.of(Texts.stair(40));
        y.person(0, 1, 1, 0, 0);
        y.change(39, 0, 0);
        Check.due("row 39 alone", y.choose(2), 39);
        Check.due("breaks nothing", y.breaks(2), 0);
        // With one more both are last once; b is ahead of a with two of three.
        UnbeatenHouse z = ordered("abcd", "bacd", "bacd");
        barTo(z, 2);
        Check.due("rule 2", z.choose(2), 0);
        Check.due("another one", z.breaks(2), 1 + 2);
    }

    private static void lastOfForty() {
        Check.sentence("Terms V", "who is ahead of each other one with more than half of the PEOPLE");
        UnbeatenHouse x = Check.of(Texts.stair(40));
        for (int row = 0; row < 38; row++) {
            x.bar(row % 6, row, true);
        }
        x.person(0, 0, 1, 0, 0);
        choosesRightly(x, 39);
        x.person(0, 1, 0, 0, 0);
        choosesRightly(x, 38);
    }

    private static void choosesRightly(UnbeatenHouse x, int row) {
        for (int rule = 0; rule < 4; rule++) {
            Check.due("by rule " + rule, x.choose(rule), row);
            Check.due("rule " + rule + " breaks nothing", x.breaks(rule), 0);
        }
    }

    // ---- promise 39

    private static void placesFromNoughtOn() {
        Check.sentence("Terms V", "places from 0 on");
        UnbeatenHouse x = Check.of(Texts.stair(40));
        x.person(0, 1, 0, 0, 0);
        x.person(5, 0, 9, 0, 0);
        for (int row = 0; row < 40; row++) {
            Check.due("by p", x.place(0, row), row);
            Check.due("by q", x.place(5, row), 39 - row);
        }
        for (int row = 0; row < 39; row++) {
            x.bar(row % 6, row, true);
        }
        Check.due("alone", x.place(0, 39), 0);
    }

    private static void placeOfNone() {
        Check.sentence("Promise 39", "NONE if that one has no weights, or the ROW is not among those");
        UnbeatenHouse x = Check.of("wish p less;wish q less;row ra 0 9;row rb 9 0;row rc 9 1;row rd?0;row re 5 5;");
        Check.due("nobody has", x.place(0, 0), NONE);
        x.person(1, 1, 0, 0, 0);
        for (int person = 0; person < 6; person++) {
            Check.due("of person " + person, x.place(person, 0), person == 1 ? 0 : NONE);
        }
        for (int nobody : NOBODY) {
            Check.due("of person " + nobody, x.place(nobody, 0), NONE);
        }
        Check.due("a beaten one", x.place(1, 2), NONE);
        Check.due("one that is aside", x.place(1, 3), NONE);
        for (int row : new int[] {MIN, -1, 5, 39, 40, 63, 64, 65, MAX}) {
            Check.due("row " + row, x.place(1, row), NONE);
        }
        Check.due("the last one", x.place(1, 4), 1);
        x.bar(3, 4, true);
        Check.due("a barred one", x.place(1, 4), NONE);
        Check.due("rb comes up", x.place(1, 1), 1);
        x.person(1, 0, 0, 0, 0);
        Check.due("none any more", x.place(1, 0), NONE);
    }
}
