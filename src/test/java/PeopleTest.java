/** Promises 35 to 39: people, their weights and bars, the choice, what a rule breaks, and places. */
public final class PeopleTest {
    private static final int NONE = UnbeatenHouse.NONE;

    private PeopleTest() {
    }

    public static void main(String[] args) {
        weights();
        bars();
        rules();
        likeOnes();
        ahead();
        breaking();
        places();
        leastOfGreatest();
        firstRowNeverFirst();
        Check.finish("PeopleTest");
    }

    private static void weights() {
        UnbeatenHouse x = Check.of("wish p less;wish q less;row ra 0 9;row rb 9 0;row rc 9 9;");
        Check.due("nobody", x.choose(0), NONE);
        Check.due("nobody breaks", x.breaks(0), NONE);
        Check.due("person 0", x.person(0, 1, 0, 0, 0), true);
        Check.due("chosen", x.choose(0), 0);
        Check.due("other weights", x.person(0, 1, 9, 0, 0), true);
        Check.due("chosen then", x.choose(0), 1);
        Check.due("a weight of 10", x.person(0, 10, 0, 0, 0), false);
        Check.due("a weight of -1", x.person(0, 1, -1, 0, 0), false);
        Check.due("no third wish", x.person(0, 1, 1, 1, 0), false);
        Check.due("no fourth wish", x.person(0, 1, 1, 0, 1), false);
        Check.due("person 6", x.person(6, 1, 0, 0, 0), false);
        Check.due("person -1", x.person(-1, 1, 0, 0, 0), false);
        Check.due("it stays", x.choose(0), 1);
        Check.due("person 5", x.person(5, 9, 9, 0, 0), true);
        Check.due("none any more", x.person(0, 0, 0, 0, 0), true);
        Check.due("person 5 alone, like ones", x.choose(0), 0);
        x.person(5, 0, 0, 0, 0);
        Check.due("nobody again", x.choose(0), NONE);
        Check.due("a rule 4", x.choose(4), NONE);
        UnbeatenHouse y = Check.of("wish p less;wish q less;wish r less;wish s more;row ra 0 0 0 1;row rb 0 0 1 9;");
        Check.due("four weights", y.person(2, 0, 0, 8, 1), true);
        Check.due("worths -1 and -1", y.choose(0), 0);
        Check.due("four more", y.person(2, 0, 0, 7, 1), true);
        Check.due("worths -1 and -2", y.choose(0), 1);
        UnbeatenHouse z = new UnbeatenHouse();
        Check.due("no wish, no weight", z.person(0, 0, 0, 0, 0), true);
        Check.due("no wish, a weight", z.person(0, 1, 0, 0, 0), false);
    }

    private static void bars() {
        UnbeatenHouse x = Check.of("wish p less;wish q less;row ra 0 9;row rb 9 0;row rc 9 9;row rd ? 0;");
        x.person(0, 1, 0, 0, 0);
        Check.due("bar by one without weights", x.bar(4, 0, true), true);
        Check.due("the other one", x.choose(0), 1);
        Check.due("bar by two", x.bar(5, 0, true), true);
        Check.due("one no more", x.bar(4, 0, false), true);
        Check.due("barred still", x.choose(0), 1);
        Check.due("nobody bars", x.bar(5, 0, false), true);
        Check.due("again", x.choose(0), 0);
        Check.due("not barred before", x.bar(5, 1, false), true);
        Check.due("no person", x.bar(6, 0, true), false);
        Check.due("person -1", x.bar(-1, 0, true), false);
        Check.due("no row", x.bar(0, 4, true), false);
        Check.due("row -1", x.bar(0, -1, true), false);
        x.bar(0, 0, true);
        x.bar(1, 1, true);
        for (int rule = 0; rule < 4; rule++) {
            Check.due("all barred, rule " + rule, x.choose(rule), NONE);
            Check.due("all barred, breaks " + rule, x.breaks(rule), NONE);
        }
        // The beaten one does not come in for a barred one.
        Check.due("rc has no place", x.place(0, 2), NONE);
    }

    /**
     * One wish a row, and each has a number for each: so a person orders the rows by weights. With
     * more of wish i the row i is better by weight i.
     */
    private static UnbeatenHouse four() {
        return Check.of("wish a more;wish b more;wish c more;wish d more;row ra 1 0 0 0;row rb 0 1 0 0;row rc 0 0 1 0;"
                + "row rd 0 0 0 1;");
    }

    private static void rules() {
        UnbeatenHouse x = four();
        x.person(0, 9, 5, 0, 1);
        x.person(1, 9, 5, 1, 0);
        x.person(2, 0, 9, 5, 1);
        x.person(3, 0, 5, 9, 1);
        x.person(4, 0, 5, 1, 9);
        // Orders: a b d c; a b c d; b c d a; c b d a; d b c a.
        Check.due("first most often", x.choose(0), 0);
        Check.due("places together: a 9, b 4, c 8, d 9", x.choose(1), 1);
        Check.due("greatest place: a 3, b 1, c 3, d 3", x.choose(2), 1);
        Check.due("ahead of each: b", x.choose(3), 1);
        Check.due("rule 4", x.choose(4), NONE);
        Check.due("rule -1", x.choose(-1), NONE);
        // Rule 0 takes a: b is ahead of each (1); b, c, d are ahead of a with three of five (2).
        Check.due("rule 0 breaks", x.breaks(0), 3);
        Check.due("rule 1 breaks", x.breaks(1), 0);
        Check.due("rule 3 breaks", x.breaks(3), 0);
        Check.due("rule 4 breaks", x.breaks(4), NONE);
        Check.due("rule -1 breaks", x.breaks(-1), NONE);
        int[] places = {0, 1, 3, 2};
        for (int row = 0; row < 4; row++) {
            Check.due("place of " + row, x.place(0, row), places[row]);
        }
    }

    private static void likeOnes() {
        UnbeatenHouse x = four();
        x.person(0, 1, 2, 0, 0);
        x.person(1, 2, 1, 0, 0);
        // Orders: b a c d; a b c d: like ones by number.
        Check.due("rule 0", x.choose(0), 0);
        Check.due("rule 1", x.choose(1), 0);
        Check.due("rule 2", x.choose(2), 0);
        Check.due("rule 3: one of two is not more than half", x.choose(3), NONE);
        Check.due("rule 3 breaks", x.breaks(3), NONE);
        Check.due("like ones by number", x.place(0, 2), 2);
        Check.due("and the next", x.place(0, 3), 3);
        x.person(2, 2, 1, 0, 0);
        Check.due("rule 3: two of three", x.choose(3), 0);
    }

    private static void ahead() {
        // a b c, b c a, c a b: a ring.
        UnbeatenHouse x = four();
        x.bar(5, 3, true);
        x.person(0, 3, 2, 1, 0);
        x.person(1, 1, 3, 2, 0);
        x.person(2, 2, 1, 3, 0);
        Check.due("none is ahead of each", x.choose(3), NONE);
        Check.due("rule 0", x.choose(0), 0);
        Check.due("rule 0 breaks nothing", x.breaks(0), 0);
        UnbeatenHouse y = Check.of("wish p less;row ra 5;row rb 6;");
        y.person(3, 1, 0, 0, 0);
        Check.due("one alone", y.choose(3), 0);
        Check.due("one alone breaks nothing", y.breaks(3), 0);
        Check.due("one alone, rule 0", y.breaks(0), 0);
    }

    private static void breaking() {
        // rb is second for all and never first: without it rule 1 takes another one.
        UnbeatenHouse x = four();
        x.person(0, 9, 5, 1, 0);
        x.person(1, 0, 5, 9, 1);
        x.person(2, 1, 5, 0, 9);
        Check.due("rule 1", x.choose(1), 1);
        Check.due("rule 1 breaks 4", x.breaks(1), 4);
        Check.due("rule 3", x.choose(3), 1);
        Check.due("rule 3 breaks 4", x.breaks(3), 4);
        // ra is first, though rb is ahead of each.
        Check.due("rule 0", x.choose(0), 0);
        Check.due("rule 0 breaks 1", x.breaks(0), 1);
        // Two like people: rd is chosen by no one.
        UnbeatenHouse y = four();
        y.person(0, 9, 5, 1, 0);
        Check.due("by one", y.breaks(0), 0);
        // Places a 0 2 2, b 1 0 3, c 2 3 0 ... by rule 1 with those never first left out another one is chosen.
        UnbeatenHouse z = four();
        z.person(0, 9, 3, 5, 4);
        z.person(1, 9, 3, 5, 4);
        z.person(2, 2, 9, 5, 4);
        z.person(3, 2, 9, 5, 4);
        z.person(4, 2, 9, 5, 4);
        // Orders: a c d b twice; b c d a three times. Together: a 9, b 6, c 5, d 10.
        Check.due("rule 1 takes c", z.choose(1), 2);
        Check.due("b is ahead of each; c is never first", z.breaks(1), 1 + 4);
        Check.due("rule 2 takes c", z.choose(2), 2);
        Check.due("rule 2 breaks", z.breaks(2), 1 + 4);
        Check.due("rule 0 takes b", z.choose(0), 1);
        Check.due("rule 0 breaks", z.breaks(0), 0);
    }

    /** Rule 1 takes one that is first but once last; rule 2 one that is never last. */
    private static void leastOfGreatest() {
        UnbeatenHouse x = four();
        x.person(0, 4, 3, 2, 1);
        x.person(1, 4, 3, 2, 1);
        x.person(2, 4, 3, 2, 1);
        x.person(3, 1, 2, 3, 4);
        // Orders: a b c d three times; d c b a. Together: a 3, b 5, c 7, d 9. Greatest: a 3, b 2, c 2, d 3.
        Check.due("rule 0", x.choose(0), 0);
        Check.due("rule 1", x.choose(1), 0);
        Check.due("rule 2", x.choose(2), 1);
        Check.due("rule 3", x.choose(3), 0);
        // b is never first; of a and d rule 2 takes a: with places 0 and 1 each.
        Check.due("rule 2 breaks", x.breaks(2), 1 + 4);
        x.bar(2, 0, true);
        // Orders: b c d three times; d c b.
        Check.due("rule 2 without a", x.choose(2), 2);
        Check.due("rule 1 without a", x.choose(1), 1);
        UnbeatenHouse y = four();
        y.person(0, 0, 2, 3, 1);
        y.person(1, 0, 2, 3, 1);
        y.person(2, 0, 3, 1, 2);
        y.person(3, 4, 3, 1, 2);
        y.person(4, 0, 2, 1, 3);
        // Orders: c b d a twice; b d c a; a b d c; d b c a. c is first most often, b and d are ahead of it, a is not.
        Check.due("rule 0 takes c", y.choose(0), 2);
        Check.due("b is ahead of each", y.choose(3), 1);
        Check.due("not each other one is ahead of c", y.breaks(0), 1);
    }

    /** Row 0 is chosen by rule 1 or 2 and is never first. */
    private static void firstRowNeverFirst() {
        UnbeatenHouse x = four();
        x.person(0, 5, 9, 1, 0);
        x.person(1, 5, 0, 9, 1);
        x.person(2, 5, 1, 0, 9);
        Check.due("rule 2 takes a", x.choose(2), 0);
        // Without a: b c d, c d b, d b c: a ring, of which b is the least.
        Check.due("rule 2 breaks", x.breaks(2), 4);
        Check.due("rule 3 breaks", x.breaks(3), 4);
        Check.due("rule 0 takes b", x.choose(0), 1);
        Check.due("rule 0 breaks", x.breaks(0), 1);
        // All others are ahead of it: with a fifth row it would be another matter.
        UnbeatenHouse y = four();
        y.person(0, 1, 9, 8, 7);
        y.bar(0, 2, true);
        y.bar(0, 3, true);
        y.person(1, 9, 1, 1, 1);
        y.person(2, 9, 1, 1, 1);
        Check.due("rule 0 takes a", y.choose(0), 0);
        y.person(3, 1, 9, 0, 0);
        y.person(4, 1, 9, 0, 0);
        Check.due("rule 0 takes b then", y.choose(0), 1);
        y.person(3, 0, 0, 0, 0);
        y.person(4, 0, 0, 0, 0);
        Check.due("and a again", y.choose(0), 0);
        Check.due("a second weight alone", y.person(5, 0, 1, 0, 0), true);
        Check.due("its place", y.place(5, 1), 0);
        Check.due("a third weight alone", y.person(5, 0, 0, 1, 0), true);
        Check.due("like ones by number", y.place(5, 0), 0);
        Check.due("it votes", y.place(5, 1), 1);
        UnbeatenHouse z = Check.of("wish p less;row ra 1;");
        Check.due("no second wish", z.person(0, 1, 1, 0, 0), false);
    }

    private static void places() {
        UnbeatenHouse x = Check.of("wish p less;wish q more;row ra 5 5;row rb 3 3;row rc 9 9;row rd 9 8;row re ? 1;");
        Check.due("without weights", x.place(0, 0), NONE);
        x.person(0, 2, 1, 0, 0);
        // Worths 5, 3, 9.
        Check.due("rb", x.place(0, 1), 0);
        Check.due("ra", x.place(0, 0), 1);
        Check.due("rc", x.place(0, 2), 2);
        Check.due("rd is beaten", x.place(0, 3), NONE);
        Check.due("re is aside", x.place(0, 4), NONE);
        Check.due("no row", x.place(0, 5), NONE);
        Check.due("row -1", x.place(0, -1), NONE);
        Check.due("row 63", x.place(0, 63), NONE);
        Check.due("another person", x.place(1, 0), NONE);
        Check.due("person -1", x.place(-1, 0), NONE);
        Check.due("person 6", x.place(6, 0), NONE);
        x.bar(3, 1, true);
        Check.due("rb barred", x.place(0, 1), NONE);
        Check.due("ra comes up", x.place(0, 0), 0);
        x.change(2, 0, 0);
        Check.due("of the rows now", x.place(0, 2), 0);
        Check.due("ra is beaten now", x.place(0, 0), NONE);
    }
}
