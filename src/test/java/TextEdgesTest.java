/** Terms I and promises 1 to 7 at their edges, a test for each sentence that names one. */
public final class TextEdgesTest {
    private static final int NONE = UnbeatenHouse.NONE;
    private static final int NO_LOSS = -2000000000;
    private static final int MIN = Integer.MIN_VALUE;
    private static final int MAX = Integer.MAX_VALUE;
    private static final int BLANKS = 0x20202020;
    private static final int[] ANY = {MIN, -2, -1, 0, 1, 3, 4, 39, 40, 64, MAX};

    private TextEdgesTest() {
    }

    public static void main(String[] args) {
        words();
        numbers();
        statements();
        wishes();
        aNumberForEachWish();
        spreads();
        fullestText();
        oneMoreThanFull();
        newObjectHasNone();
        newObjectJudgesNothing();
        newObjectSaysNothing();
        feedPutsBehind();
        feedHighestFirst();
        feedTooMuch();
        endLeavesFirstBytes();
        endRefused();
        tapeGoes();
        howManyStatements();
        allStays();
        nothingIsLeft();
        gridStays();
        faultOfTheLatest();
        faultOfOthers();
        hasOthers();
        lettersOfNone();
        lettersOfAll();
        lastCalls();
        Check.finish("TextEdgesTest");
    }

    // ---- Terms I

    private static void words() {
        Check.sentence("Terms I", "WORDS (1 to 6 letters a .. z)");
        Check.sound("knot a;", 1);
        Check.sound("knot z;", 1);
        Check.sound("knot azazaz;", 1);
        Check.faulty("knot azazaza;", 1, 11);
        Check.faulty("knot azazazaz;", 1, 11);
        for (char sign : new char[] {'`', '{', '@', '[', 'A', 'Z', '_', 1, 127, 225, 255}) {
            Check.faulty("knot " + sign + ";", 1, 5);
            Check.faulty("knot a" + sign + ";", 1, 6);
            Check.faulty("knot azazaz" + sign + ";", 1, 11);
        }
    }

    private static void numbers() {
        Check.sentence("Terms I", "NUMBERS (1 to 4 digits)");
        String row = "wish p less;row ra ";
        String[] told = {"0", "9", "00", "09", "10", "000", "999", "1000", "0000", "0009", "9999"};
        for (String number : told) {
            Check.sound(row + number + ";", 2);
            Check.due(number, Check.of(row + number + ";").price(0, 0, false), Integer.parseInt(number));
        }
        Check.faulty(row + "00000;", 1, 23);
        Check.faulty(row + "10000;", 1, 23);
        Check.faulty(row + "123456;", 1, 23);
        for (char sign : new char[] {'/', ':', '.', '-', '+', 178, 185}) {
            Check.faulty(row + sign + ";", 1, 19);
            Check.faulty(row + "9" + sign + ";", 1, 20);
            Check.faulty(row + "9999" + sign + ";", 1, 23);
        }
    }

    private static void statements() {
        Check.sentence("Terms I", "{ STATEMENT ; }");
        Check.sound("", 0);
        Check.sound("rule all;", 1);
        Check.sound("rule all;rule all;", 2);
        Check.faulty(";", 1, 0);
        Check.faulty("rule all", 1, 8);
        Check.faulty("rule all;;", 1, 9);
        Check.faulty("rule all rule all;", 1, 9);
    }

    private static String wishes(int many) {
        return Texts.each("wish @ more;", many, 'w');
    }

    private static void wishes() {
        Check.sentence("Terms I", "(1 .. 4 WISHES)");
        for (int n = 1; n <= 4; n++) {
            UnbeatenHouse x = Check.of(wishes(n) + "row ra" + " 7".repeat(n) + ";");
            Check.due("has(0)", x.has(0), n);
            Check.due("the last one's price", x.price(0, n - 1, false), 7);
            Check.due("and no more", x.price(0, n, false), NONE);
            Check.due("on the front", x.front(0, 0, 0), 1);
            Check.due("its last loss", x.loss(0, n - 1), -7);
            Check.due("and no more losses", x.loss(0, n), NO_LOSS);
        }
        Check.faulty(wishes(5), 5, wishes(4).length());
        Check.faulty(wishes(4) + " \n wish q less;", 5, wishes(4).length() + 3);
    }

    private static void aNumberForEachWish() {
        Check.sentence("Terms I", "then for each WISH a NUMBER");
        for (int n = 1; n <= 4; n++) {
            for (String ahead : new String[] {"row ra", "thing ta", "knot ka;knot kb;tie ka kb"}) {
                String told = wishes(n) + ahead + " 7".repeat(n);
                Check.due(told, Check.text(new UnbeatenHouse(), told + ";") > n, true);
                Check.faulty(told + " 8;", 1, told.length() + 1);
                String few = wishes(n) + ahead + " 7".repeat(n - 1);
                Check.faulty(few + ";", 1, few.length());
                Check.faulty(few + " x;", 1, few.length() + 1);
            }
        }
        Check.faulty("wish p less;thing ta ?;", 1, 21);
        Check.faulty("wish p less;knot ka;knot kb;tie ka kb ?;", 1, 38);
    }

    private static void spreads() {
        Check.sentence("Terms I", "perhaps with ~ NUMBER behind (its SPREAD; else 0), or ?");
        UnbeatenHouse x = Check.of("wish p less;wish q less;row ra 0~0 9999~9999;row rb 5 5;row rc?5~1;row rd 5~1?;"
                + "row re??;");
        int[][] due = {{0, 9999}, {0, 0}, {NONE, 1}, {1, NONE}, {NONE, NONE}};
        for (int row = 0; row < due.length; row++) {
            for (int wish = 0; wish < 2; wish++) {
                Check.due("spread " + row + " " + wish, x.price(row, wish, true), due[row][wish]);
            }
        }
        String row = "wish p less;row ra 5";
        Check.faulty(row + "~;", 1, 21);
        Check.faulty(row + "~12345;", 1, 25);
        Check.faulty(row + "~1~1;", 1, 22);
        Check.faulty(row + "?;", 1, 20);
        Check.faulty("wish p less;row ra ?~1;", 1, 20);
        Check.faulty("wish p less;row ra ?5;", 1, 20);
        Check.faulty("wish p less;row ra ~5;", 1, 19);
    }

    /** As many STATEMENTS as there may be beside each other, in 868 bytes. */
    private static String fullest() {
        StringBuilder t = new StringBuilder("wish a more;");
        for (char c = 'b'; c <= 'k'; c++) {
            t.append("knot ").append(c).append(';');
        }
        t.append("tie b c 1;".repeat(24));
        for (char c = 'l'; c <= 'z'; c++) {
            t.append("row ").append(c).append("?;");
        }
        return t + Texts.each("row @?;", 24, 'a') + "row zz 5;" + Texts.each("thing @ 1;", 12, 'b') + "rule all;".repeat(12);
    }

    private static void fullestText() {
        Check.sentence("Terms I", "(40 ROWS at most) .. (10 at most) .. (24 at most) .. (12 at most) .. (12 at most)");
        UnbeatenHouse x = Check.of(fullest());
        int[] counts = {1, 40, 10, 24, 12, 12};
        for (int kind = 0; kind < counts.length; kind++) {
            Check.due("has(" + kind + ")", x.has(kind), counts[kind]);
        }
        Check.due("the last row", x.price(39, 0, false), 5);
        Check.due("alone on the front", x.rows(), 1L << 39);
        Check.due("24 like ties", x.front(1, 0, 1), 1);
        Check.due("all 12 things", x.front(2, 0, 0), 1);
        Check.due("the set of all", x.who(0), 4095);
        Check.due("the last knot's letter", x.letter(2, 9, 0), 'k');
        Check.due("the last thing's letter", x.letter(3, 11, 1), 'l');
    }

    private static void oneMoreThanFull() {
        Check.sentence("Terms I", "5 one too many of a kind of STATEMENT, at its first byte");
        String full = fullest();
        for (String more : new String[] {"row yy 1;", "knot yy;", "tie b c 1;", "thing yy 1;", "rule all;", "rule"}) {
            Check.faulty(full + more, 5, full.length());
            Check.faulty(full + "\n  " + more, 5, full.length() + 3);
        }
        // Neither how it goes on nor the kinds that are not full count.
        Check.faulty(Texts.each("knot @;", 10, 'a') + "knot knot knot", 5, 80);
        Check.sound(Texts.each("knot @;", 10, 'a') + "rule all;", 11);
        Check.faulty("rule all;".repeat(12) + "rule (((((((((", 5, 108);
    }

    // ---- Promise 1

    private static void newObjectHasNone() {
        Check.sentence("Promise 1", "No WISHES, nothing to be judged; GRID 4; no SAYINGS, weights, bars.");
        UnbeatenHouse x = new UnbeatenHouse();
        int[] counts = {0, 0, 0, 0, 0, 0, 0, 4};
        for (int what = 0; what < counts.length; what++) {
            Check.due("has(" + what + ")", x.has(what), counts[what]);
        }
        for (int which : ANY) {
            for (int kind = 0; kind < 4; kind++) {
                Check.due("letter", x.letter(kind, which, 0), NONE);
            }
            Check.due("price", x.price(which, 0, false), NONE);
            Check.due("spread", x.price(0, which, true), NONE);
            Check.due("beats", x.beats(which, 0), NONE);
            Check.due("leads", x.leads(which), NONE);
            Check.due("change", x.change(which, 0, 5), NONE);
            Check.due("maybe", x.maybe(which, 1), NONE);
            Check.due("rather", x.rather(which, 1), NONE);
            Check.due("bar", x.bar(0, which, true), false);
        }
        Check.due("rows", x.rows(), 0);
        Check.due("sure", x.unsure(true), 0);
        Check.due("possible", x.unsure(false), 0);
        Check.due("fell", x.changed(false), 0);
        Check.due("came", x.changed(true), 0);
        Check.due("a grid", x.grid(12), true);
    }

    private static void newObjectJudgesNothing() {
        Check.sentence("Promise 1", "nothing to be judged");
        UnbeatenHouse x = new UnbeatenHouse();
        for (int which : ANY) {
            Check.due("front of rows", x.front(0, which, which), NONE);
            Check.due("front of ways", x.front(1, 0, which), NONE);
            Check.due("front of sets", x.front(2, which, 0), NONE);
            Check.due("front", x.front(which, 0, 1), NONE);
            Check.due("loss", x.loss(which, 0), NO_LOSS);
            Check.due("who", x.who(which), NONE);
            Check.due("knot", x.knot(0, which), NONE);
            Check.due("corner", x.corner(which), NONE);
            Check.due("weight", x.weight(which, 0), NONE);
            Check.due("near", x.near(which), NONE);
            Check.due("standIns", x.standIns(which), NONE);
            Check.due("kept", x.kept(which), NONE);
            Check.due("cost", x.cost(which, 0, 1, true), NONE);
            Check.due("hole", x.hole(which), NONE);
        }
    }

    private static void newObjectSaysNothing() {
        Check.sentence("Promise 1", "no SAYINGS, weights, bars");
        UnbeatenHouse x = new UnbeatenHouse();
        Check.due("unsay", x.unsay(), NONE);
        Check.due("agree", x.agree(), NONE);
        Check.due("could", x.could(), 0);
        Check.due("quarrel", x.quarrel(), 0);
        for (int which : ANY) {
            Check.due("question", x.question(which), NONE);
            Check.due("stop", x.stop(which), NONE);
            Check.due("no weights", x.person(which, 0, 0, 0, 0), which >= 0 && which < 6);
            Check.due("a weight of no wish", x.person(which, 1, 0, 0, 0), false);
            Check.due("choose", x.choose(which), NONE);
            Check.due("breaks", x.breaks(which), NONE);
            Check.due("place", x.place(which, 0), NONE);
        }
    }

    // ---- Promises 2 and 3

    private static int feedBlanks(UnbeatenHouse x) {
        return x.feed(BLANKS, BLANKS, BLANKS, BLANKS, BLANKS);
    }

    private static UnbeatenHouse fed(int bytes) {
        UnbeatenHouse x = new UnbeatenHouse();
        for (int i = 0; i < 45; i++) {
            feedBlanks(x);
        }
        x.end(bytes);
        return x;
    }

    private static void feedPutsBehind() {
        Check.sentence("Promise 2", "Twenty bytes come behind those on the tape");
        UnbeatenHouse x = new UnbeatenHouse();
        for (int i = 1; i <= 45; i++) {
            Check.due("feed", feedBlanks(x), 20 * i);
        }
        for (int n = 0; n <= 880; n += 55) {
            Check.due("behind " + n, feedBlanks(fed(n)), n + 20);
        }
        Check.due("behind 1", feedBlanks(fed(1)), 21);
        Check.due("behind 879", feedBlanks(fed(879)), 899);
    }

    private static void feedHighestFirst() {
        Check.sentence("Promise 2", "of each number the highest first");
        // knot ab; and twelve blanks, which stand in each of the five numbers in turn.
        UnbeatenHouse x = new UnbeatenHouse();
        x.feed(0x6b6e6f74, 0x2061623b, 0x6b6e6f74, 0x2062633b, 0x6b6e6f74);
        x.feed(0x2063643b, 0x6b6e6f74, 0x2064653b, 0x6b6e6f74, 0x2065663b);
        Check.due("five knots", x.text(), 5);
        for (int k = 0; k < 5; k++) {
            Check.due("first letter of " + k, x.letter(2, k, 0), 'a' + k);
            Check.due("second letter of " + k, x.letter(2, k, 1), 'b' + k);
        }
        // Numbers below 0 are bytes like any other: each of them is the first fault.
        for (int i = 0; i < 20; i++) {
            int[] n = {BLANKS, BLANKS, BLANKS, BLANKS, BLANKS};
            n[i / 4] = BLANKS ^ 0xdf << 24 - 8 * (i % 4);
            UnbeatenHouse y = new UnbeatenHouse();
            y.feed(n[0], n[1], n[2], n[3], n[4]);
            Check.due("a byte of 255", y.text(), NONE);
            Check.due("its place", y.fault(1), i);
        }
        UnbeatenHouse z = new UnbeatenHouse();
        Check.due("least numbers", z.feed(MIN, MIN, MIN, MIN, MIN), 20);
        Check.due("greatest numbers", z.feed(MAX, MAX, MAX, MAX, MAX), 40);
        Check.due("a byte of 128", z.text(), NONE);
        Check.due("the first", z.fault(1), 0);
    }

    private static void feedTooMuch() {
        Check.sentence("Promise 2", "NONE, doing nothing, if there would be more than 900");
        Check.due("900 is not more", feedBlanks(fed(880)), 900);
        for (int n = 881; n <= 900; n++) {
            UnbeatenHouse x = fed(n);
            Check.due("behind " + n, x.feed(-1, -1, -1, -1, -1), NONE);
            Check.due("again", x.feed(-1, -1, -1, -1, -1), NONE);
            Check.due("no byte more", x.end(n + 1), false);
            Check.due("no byte less", x.end(n), true);
            Check.due("nor another one", x.text(), 0);
        }
    }

    private static void endLeavesFirstBytes() {
        Check.sentence("Promise 3", "The tape has its first n bytes alone: true");
        for (int n = 0; n <= 900; n += 75) {
            UnbeatenHouse x = fed(900);
            Check.due("end(" + n + ")", x.end(n), true);
            Check.due("no more", x.end(n + 1), false);
            Check.due("again", x.end(n), true);
            Check.due("how many", feedBlanks(x), n > 880 ? NONE : n + 20);
        }
        UnbeatenHouse x = new UnbeatenHouse();
        Check.due("none of none", x.end(0), true);
        Check.feed(x, "rule all;rule none;");
        Check.due("the first 9", x.end(9), true);
        x.feed(0x72756c65, 0x20616c6c, 0x3b202020, BLANKS, BLANKS);
        Check.due("rule all; behind them", x.text(), 2);
    }

    private static void endRefused() {
        Check.sentence("Promise 3", "false, doing nothing, if it has not so many, or n is below 0");
        for (int n : new int[] {MIN, MIN + 9, -2, -1, 10, 11, 20, 900, 901, MAX}) {
            UnbeatenHouse x = new UnbeatenHouse();
            Check.due("end(" + n + ") of none", x.end(n), false);
            Check.feed(x, "rule all;");
            Check.due("end(" + n + ") of 9", x.end(n), false);
            Check.due("none came, none went", feedBlanks(x), 29);
            Check.due("it reads so", x.text(), 1);
        }
        Check.due("end(901) of 900", fed(900).end(901), false);
        Check.due("end(900) of 900", fed(900).end(900), true);
    }

    // ---- Promise 4

    private static void tapeGoes() {
        Check.sentence("Promise 4", "The tape (it goes, refused or not) is THE TEXT");
        UnbeatenHouse x = new UnbeatenHouse();
        for (String text : new String[] {"", "rule all;", "rule all", ";", "rule all;"}) {
            Check.text(x, text);
            Check.due("nothing is on it", x.end(1), false);
            Check.due("the next bytes are the first", feedBlanks(x), 20);
            x.end(0);
        }
        Check.due("an empty tape", x.text(), 0);
        Check.due("once more", x.text(), 0);
        Check.due("a full one", fed(900).text(), 0);
    }

    private static void howManyStatements() {
        Check.sentence("Promise 4", "how many STATEMENTS");
        UnbeatenHouse x = new UnbeatenHouse();
        Check.due("none", Check.text(x, " "), 0);
        Check.due("one", Check.text(x, "rule all;"), 1);
        Check.due("twelve", Check.text(x, "rule all;".repeat(12)), 12);
        Check.due("none again", Check.text(x, ""), 0);
        Check.due("99", Check.text(x, fullest()), 99);
        Check.due("868 bytes", fullest().length(), 868);
    }

    /** Something that each call has to tell: on the front at hand are ra, rb and rc, on that of rows ra, rc and rd. */
    private static UnbeatenHouse busy() {
        UnbeatenHouse x = Check.of("wish p less;wish q less;row ra 0 9;row rb 5 5;row rc 9 0;row rd 9 4~2;knot ka;"
                + "knot kb;tie ka kb 1 1;thing ta 1 1;rule all;");
        x.grid(6);
        x.front(0, 0, 0);
        x.near(4);
        x.change(3, 0, 5);
        x.rather(0, 1);
        x.rather(1, 2);
        x.person(2, 1, 3, 0, 0);
        x.bar(4, 0, true);
        return x;
    }

    private static void allStays() {
        Check.sentence("Promise 4", "NONE with a FAULT (all stays)");
        UnbeatenHouse x = busy();
        String[] faulty = {";", "row", "wish p less;row ra 1;row ra 2;", "rule all", "wish z more;knot kb;rule has kb;",
            "wish a less;wish b less;wish c less;wish d less;wish e less;"};
        for (String text : faulty) {
            Check.due("text() of «" + text + "»", Check.text(x, text), NONE);
            int[] counts = {2, 4, 2, 1, 1, 1, 2, 6};
            for (int what = 0; what < counts.length; what++) {
                Check.due("has(" + what + ")", x.has(what), counts[what]);
            }
            Check.due("name", x.letter(0, 1, 0), 'q');
            Check.due("price", x.price(3, 0, false), 5);
            Check.due("spread", x.price(3, 1, true), 2);
            Check.due("fell", x.changed(false), 2);
            Check.due("came", x.changed(true), 8);
            Check.due("front at hand", x.loss(1, 1), 5);
            Check.due("corner", x.corner(0), 4);
            Check.due("kept", x.kept(1), 2);
            Check.due("agree", x.agree(), 3);
            Check.due("choose", x.choose(0), 2);
        }
        x.bar(4, 0, false);
        Check.due("weights", x.place(2, 0), 2);
        Check.due("another front", x.front(2, 0, 0), 1);
        Check.due("ways", x.front(1, 0, 1), 1);
    }

    private static void nothingIsLeft() {
        Check.sentence("Promise 4", "Without one there is no FRONT at hand, none of it is kept, nothing FELL or CAME, "
                + "there are no SAYINGS, weights, bars");
        UnbeatenHouse x = busy();
        Check.due("fell ahead of it", x.changed(false), 2);
        Check.due("came ahead of it", x.changed(true), 8);
        Check.text(x, "wish p less;wish q less;row ra 0 9;row rb 5 5;row rc 9 0;");
        Check.due("loss", x.loss(0, 0), NO_LOSS);
        Check.due("who", x.who(0), NONE);
        Check.due("knot", x.knot(0, 0), NONE);
        Check.due("corner", x.corner(0), NONE);
        Check.due("weight", x.weight(0, 0), NONE);
        Check.due("near", x.near(0), NONE);
        Check.due("standIns", x.standIns(1), NONE);
        Check.due("cost", x.cost(1, 0, 1, true), NONE);
        Check.due("hole", x.hole(0), NONE);
        Check.due("kept", x.kept(0), NONE);
        Check.due("fell", x.changed(false), 0);
        Check.due("came", x.changed(true), 0);
        Check.due("sayings", x.has(6), 0);
        Check.due("unsay", x.unsay(), NONE);
        Check.due("all agree", x.agree(), 7);
        Check.due("choose", x.choose(0), NONE);
        Check.due("place", x.place(2, 1), NONE);
        x.person(0, 2, 1, 0, 0);
        Check.due("ra is not barred", x.choose(0), 0);
        // The empty text is one without a FAULT, too.
        UnbeatenHouse y = busy();
        Check.due("an empty text", y.text(), 0);
        for (int what = 0; what < 7; what++) {
            Check.due("has(" + what + ")", y.has(what), 0);
        }
        Check.due("no front at hand", y.who(0), NONE);
        Check.due("none kept", y.kept(0), NONE);
    }

    private static void gridStays() {
        Check.sentence("Promise 4", "(the GRID stays)");
        UnbeatenHouse x = new UnbeatenHouse();
        for (int g : new int[] {1, 12, 7}) {
            x.grid(g);
            Check.text(x, "wish p less;wish q less;");
            Check.due("of two wishes", x.agree(), g + 1);
            Check.text(x, "wish p less");
            Check.due("refused", x.has(7), g);
            Check.text(x, "wish p less;wish q less;wish r less;");
            Check.due("of three wishes", x.agree(), (g + 1) * (g + 2) / 2);
            Check.due("an empty text", x.text(), 0);
            Check.due("has(7)", x.has(7), g);
        }
    }

    // ---- Promises 5 to 7

    private static void faultOfTheLatest() {
        Check.sentence("Promise 5", "Of the latest text(): its FAULT (what 0; 0 without, and ahead of any), "
                + "its place (1; NONE without)");
        UnbeatenHouse x = new UnbeatenHouse();
        Check.due("ahead of any", x.fault(0), 0);
        Check.due("ahead of any, its place", x.fault(1), NONE);
        feedBlanks(x);
        Check.due("fed alone", x.fault(0), 0);
        x.end(0);
        String[] texts = {"knot a;knot a;", "", "row", "rule of a=1;", "rule all;", "rule (((((((((", "x"};
        int[] faults = {2, 0, 6, 3, 0, 5, 1};
        int[] places = {12, NONE, 0, 8, NONE, 13, 0};
        for (int i = 0; i < texts.length; i++) {
            Check.text(x, texts[i]);
            Check.due("fault of " + texts[i], x.fault(0), faults[i]);
            Check.due("place of " + texts[i], x.fault(1), places[i]);
            Check.feed(x, "knot b;");
            Check.due("stays until text()", x.fault(0), faults[i]);
            Check.due("and its place", x.fault(1), places[i]);
            x.end(0);
        }
    }

    private static void faultOfOthers() {
        Check.sentence("Promise 5", "NONE for another what");
        UnbeatenHouse x = new UnbeatenHouse();
        for (int turn = 0; turn < 2; turn++) {
            for (int what : new int[] {MIN, -1, 2, 3, MAX}) {
                Check.due("fault(" + what + ")", x.fault(what), NONE);
            }
            Check.text(x, "knot a;x");
        }
    }

    private static void hasOthers() {
        Check.sentence("Promise 6", "NONE for others");
        UnbeatenHouse x = busy();
        for (int what : new int[] {MIN, -1, 8, 9, MAX}) {
            Check.due("has(" + what + ")", x.has(what), NONE);
        }
        for (int i = 3; i <= 12; i++) {
            x.rather(0, 1);
            Check.due("sayings", x.has(6), i);
        }
        x.rather(0, 1);
        Check.due("no thirteenth", x.has(6), 12);
    }

    private static void lettersOfNone() {
        Check.sentence("Promise 7", "NONE if there is none such");
        UnbeatenHouse x = busy();
        int[] counts = {2, 4, 2, 1};
        int[] letters = {1, 2, 2, 2};
        for (int kind = 0; kind < 4; kind++) {
            int last = counts[kind] - 1;
            Check.due("of the last one", x.letter(kind, last, letters[kind] - 1) > 0, true);
            for (int k : new int[] {MIN, -1, letters[kind], 6, MAX}) {
                Check.due("letter " + k, x.letter(kind, last, k), NONE);
            }
            for (int which : new int[] {MIN, -1, last + 1, 40, MAX}) {
                Check.due("which " + which, x.letter(kind, which, 0), NONE);
            }
        }
        for (int kind : new int[] {MIN, -1, 4, 5, 6, MAX}) {
            Check.due("kind " + kind, x.letter(kind, 0, 0), NONE);
        }
    }

    private static void lettersOfAll() {
        Check.sentence("Promise 7", "97 .. 122");
        UnbeatenHouse x = Check.of("wish azazaz less;row zazaza?;knot a;knot z;thing zzzzzz 1;thing aaaaaa 1;");
        for (int k = 0; k < 6; k++) {
            Check.due("wish", x.letter(0, 0, k), k % 2 == 0 ? 97 : 122);
            Check.due("row", x.letter(1, 0, k), k % 2 == 0 ? 122 : 97);
            Check.due("z thing", x.letter(3, 0, k), 122);
            Check.due("a thing", x.letter(3, 1, k), 97);
        }
        Check.due("a", x.letter(2, 0, 0), 97);
        Check.due("z", x.letter(2, 1, 0), 122);
        Check.due("no seventh", x.letter(3, 0, 6), NONE);
        Check.due("no second", x.letter(2, 0, 1), NONE);
    }

    private static void lastCalls() {
        Check.sentence("What it is", "An object is used for at most 512 calls after it has been made");
        UnbeatenHouse x = new UnbeatenHouse();
        for (int i = 0; i < 128; i++) {
            Check.due("feed", x.feed(0x6b6e6f74, 0x2061623b, 0x6b6e6f74, 0x2062633b, -1), 20);
            Check.due("end", x.end(16), true);
            Check.due("text", x.text(), 2);
            Check.due("letter", x.letter(2, 1, 1), 'c');
        }
    }
}
