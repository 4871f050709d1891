/** Promises 8 to 15: what rows have, which beat which, changes, and what is unsure. */
public final class RowsTest {
    private static final int NONE = UnbeatenHouse.NONE;
    // Losses: ra 10 -5, rb 8 -5, rc 12 -9, rd 8 -5, re aside, rf 20 -3.
    private static final String ROWS = "wish p less;wish q more;row ra 10 5;row rb 8 5~2;row rc 12~3 9;row rd 8 5;"
            + "row re ? 9~7;row rf 20 3;";

    private RowsTest() {
    }

    public static void main(String[] args) {
        prices();
        beating();
        leading();
        changing();
        changingSpreads();
        surely();
        maybes();
        fortyRows();
        Check.finish("RowsTest");
    }

    private static void prices() {
        UnbeatenHouse x = Check.of(ROWS);
        Check.due("price(2, 0)", x.price(2, 0, false), 12);
        Check.due("price(2, 1)", x.price(2, 1, false), 9);
        Check.due("price(2, 0, spread)", x.price(2, 0, true), 3);
        Check.due("price(2, 1, spread)", x.price(2, 1, true), 0);
        Check.due("price of ?", x.price(4, 0, false), NONE);
        Check.due("spread of ?", x.price(4, 0, true), NONE);
        Check.due("beside a ?", x.price(4, 1, false), 9);
        Check.due("spread beside a ?", x.price(4, 1, true), 7);
        Check.due("no row", x.price(6, 0, false), NONE);
        Check.due("row -1", x.price(-1, 0, true), NONE);
        Check.due("no wish", x.price(0, 2, false), NONE);
        Check.due("wish -1", x.price(0, -1, true), NONE);
    }

    private static void beating() {
        UnbeatenHouse x = Check.of(ROWS);
        Check.due("rb, ra", x.beats(1, 0), 1);
        Check.due("ra, rb", x.beats(0, 1), 0);
        Check.due("rb, rd: like ones", x.beats(1, 3), 0);
        Check.due("rc, ra: more of both", x.beats(2, 0), 0);
        Check.due("itself", x.beats(0, 0), 0);
        Check.due("aside, rf", x.beats(4, 5), 0);
        Check.due("rc, aside", x.beats(2, 4), 0);
        Check.due("no row", x.beats(0, 6), NONE);
        Check.due("row -1", x.beats(-1, 0), NONE);
        Check.due("rows", x.rows(), 2 + 4 + 8);
    }

    private static void leading() {
        UnbeatenHouse x = Check.of(ROWS);
        Check.due("ra", x.leads(0), 1);
        Check.due("rb", x.leads(1), NONE);
        Check.due("aside", x.leads(4), NONE);
        Check.due("rf", x.leads(5), 1);
        Check.due("no row", x.leads(6), NONE);
        Check.due("row -1", x.leads(-1), NONE);
        // ra beats rb and is beaten by rc: rb leads to rc, which is on the front.
        UnbeatenHouse y = Check.of("wish p less;row ra 5;row rb 9;row rc 1;");
        Check.due("rb leads past ra", y.leads(1), 2);
        UnbeatenHouse z = Check.of("wish p more;row ra 5;row rb 4;");
        Check.due("to the first row", z.leads(1), 0);
    }

    private static void changing() {
        UnbeatenHouse x = Check.of(ROWS);
        Check.due("first, none fell", x.changed(false) | x.changed(true), 0);
        // re gets 1 of p and beats all but none: losses 1 -9.
        Check.due("re comes", x.change(4, 0, 1), 4);
        Check.due("fell", x.changed(false), 2 + 4 + 8);
        Check.due("came", x.changed(true), 16);
        Check.due("rows", x.rows(), 16);
        Check.due("refused", x.change(4, 0, 10000), NONE);
        Check.due("refused below", x.change(4, 0, -2), NONE);
        Check.due("refused row", x.change(6, 0, 1), NONE);
        Check.due("refused wish", x.change(0, 2, 1), NONE);
        Check.due("refused wish -1", x.change(0, -1, 1), NONE);
        Check.due("what fell stays", x.changed(false), 14);
        Check.due("nothing moved", x.price(4, 0, false), 1);
        Check.due("re aside again", x.change(4, 0, NONE), 4);
        Check.due("fell", x.changed(false), 16);
        Check.due("came", x.changed(true), 14);
        Check.due("no change", x.change(4, 1, 0), 0);
        Check.due("none fell", x.changed(false), 0);
        Check.due("none came", x.changed(true), 0);
        Check.due("to the most", x.change(4, 1, 9999), 0);
        Check.due("it has the most", x.price(4, 1, false), 9999);
        x.front(0, 0, 0);
        x.change(1, 0, 0);
        Check.due("the front at hand stays", x.loss(0, 0), 8);
        Check.due("who stays on it", x.who(2), 3);
    }

    private static void changingSpreads() {
        UnbeatenHouse x = Check.of(ROWS);
        x.change(2, 0, 7);
        Check.due("a spread stays", x.price(2, 0, true), 3);
        x.change(4, 0, 7);
        Check.due("of a ? it was 0", x.price(4, 0, true), 0);
        Check.due("the other one stays", x.price(4, 1, true), 7);
        x.change(4, 1, NONE);
        x.change(4, 1, 3);
        Check.due("the other one is gone", x.price(4, 1, true), 0);
        Check.due("no other row's", x.price(1, 1, true), 2);
        x.change(2, 0, NONE);
        Check.due("a ? has none", x.price(2, 0, true), NONE);
        x.change(2, 0, 7);
        Check.due("and none comes again", x.price(2, 0, true), 0);
        Check.text(x, ROWS.replace("~", " ").replace(" 2;", ";").replace("12 3", "12").replace("9 7", "9"));
        Check.due("another text", x.has(1), 6);
        Check.text(x, ROWS);
        Check.text(x, ROWS);
        Check.text(x, ROWS.replace("~", " ").replace(" 2;", ";").replace("12 3", "12").replace("9 7", "9"));
        Check.due("one more", x.has(1), 6);
        Check.due("has no spread of the earlier one", x.price(1, 1, true), 0);
        Check.due("nor another one", x.price(2, 0, true), 0);
    }

    private static void surely() {
        // Of p: ra 8 .. 12, rb 12 .. 14, rc 20 .. 20, rd 12 .. 12, re aside.
        UnbeatenHouse x = Check.of("wish p less;row ra 10~2;row rb 13~1;row rc 20;row rd 12;row re ?;");
        Check.due("ra may be rd's like", x.maybe(0, 3), 1);
        Check.due("ra, rb meet at 12", x.maybe(0, 1), 1);
        Check.due("ra, rc", x.maybe(0, 2), 2);
        Check.due("rb, ra", x.maybe(1, 0), 0);
        Check.due("rd, rb", x.maybe(3, 1), 1);
        Check.due("rd, ra at 12 alone", x.maybe(3, 0), 0);
        Check.due("itself", x.maybe(0, 0), NONE);
        Check.due("aside", x.maybe(4, 0), NONE);
        Check.due("aside too", x.maybe(0, 4), NONE);
        Check.due("no row", x.maybe(0, 5), NONE);
        Check.due("row -1", x.maybe(-1, 0), NONE);
        // Nobody surely beats ra, rb or rd; ra alone is beaten by nobody maybe.
        Check.due("possible", x.unsure(false), 1 + 2 + 8);
        Check.due("sure", x.unsure(true), 1);
    }

    private static void maybes() {
        // More of q: ra 8 .. 12, rb 7 .. 8; like ones in p.
        UnbeatenHouse x = Check.of("wish p less;wish q more;row ra 5 10~2;row rb 5 7~1;row rc 6 9~4;row rd 5 1;");
        Check.due("ra, rb", x.maybe(0, 1), 1);
        Check.due("rb, ra", x.maybe(1, 0), 0);
        Check.due("ra, rd", x.maybe(0, 3), 2);
        Check.due("ra, rc", x.maybe(0, 2), 1);
        Check.due("rc, ra", x.maybe(2, 0), 0);
        Check.due("possible", x.unsure(false), 1 + 2 + 4);
        Check.due("sure", x.unsure(true), 1);
        // A spread greater than the number goes below 0; one with itself does not count.
        UnbeatenHouse y = Check.of("wish p less;row ra 1~9;row rb 0;");
        Check.due("below 0", y.maybe(0, 1), 1);
        Check.due("possible both", y.unsure(false), 3);
        Check.due("none sure", y.unsure(true), 0);
        // Less in one, like in the other: surely only if it is less whatever they have.
        UnbeatenHouse z = Check.of("wish p less;wish q less;row ra 1 5;row rb 2 5;row rc 2~1 5;");
        Check.due("less in p", z.maybe(0, 1), 2);
        Check.due("perhaps like", z.maybe(0, 2), 1);
    }

    private static void fortyRows() {
        StringBuilder t = new StringBuilder("wish p less;wish q less;");
        for (int i = 0; i < 40; i++) {
            t.append("row ").append((char) ('a' + i / 26)).append((char) ('a' + i % 26)).append("z ");
            t.append(i).append(' ').append(39 - i).append(';');
        }
        UnbeatenHouse x = Check.of(t.toString());
        Check.due("40 on the front", x.rows(), (1L << 40) - 1);
        Check.due("all sure", x.unsure(true), (1L << 40) - 1);
        Check.due("front", x.front(0, 0, 0), 40);
        Check.due("row 39 to nought", x.change(39, 0, 0), 39);
        Check.due("39 fell", x.changed(false), (1L << 39) - 1);
        Check.due("it stays alone", x.rows(), 1L << 39);
        Check.due("all lead to it", x.leads(0), 39);
        StringBuilder u = new StringBuilder("wish a less;wish b less;wish c more;wish d more;");
        for (int i = 0; i < 40; i++) {
            u.append("row ").append((char) ('a' + i / 26)).append((char) ('a' + i % 26)).append("z 1 1 1 ");
            u.append(i).append(';');
        }
        UnbeatenHouse y = Check.of(u.toString());
        Check.due("by the fourth wish", y.rows(), 1L << 39);
        Check.due("one beats", y.beats(39, 38), 1);
        Check.due("two change", y.change(5, 3, 39), 1);
        Check.due("two are like", y.rows(), 1L << 39 | 1L << 5);
        Check.due("the first leads", y.leads(38), 5);
    }
}
