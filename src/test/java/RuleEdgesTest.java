/** Terms I, what a TEST says of a SET: numbers at their bounds, and all forms of a TEST. */
public final class RuleEdgesTest {
    private static final int GREATEST = 1000000000;
    private static final String MOST = "1000*1000*1000";

    private RuleEdgesTest() {
    }

    public static void main(String[] args) {
        fromTheLeftOn();
        notAbove();
        byNought();
        sumsBounded();
        differencesBounded();
        productsBounded();
        noWrapAround();
        eachIsBounded();
        quotients();
        leastAndGreatest();
        signs();
        orsAndAnds();
        nots();
        allHolds();
        hasOne();
        howMany();
        ofAWish();
        rulesOfAll();
        deepest();
        numbersAreNoWords();
        Check.finish("RuleEdgesTest");
    }

    private static boolean holds(String test) {
        UnbeatenHouse x = Check.of("wish p less;rule " + test + ";");
        return x.front(2, 0, 0) == 1;
    }

    /** A NUMBER has four digits, so a greater one is told by its thousands. */
    private static String told(int number) {
        int n = Math.abs(number);
        String sum = "(" + n / 1000000 + "*1000*1000+" + n / 1000 % 1000 + "*1000+" + n % 1000 + ")";
        return number < 0 ? "(0-" + sum + ")" : sum;
    }

    private static void value(String sum, int due) {
        Check.due(sum + " = " + due, holds(sum + "=" + told(due)), true);
        Check.due(sum + " < " + due, holds(sum + "<" + told(due)), false);
        Check.due(sum + " > " + due, holds(sum + ">" + told(due)), false);
    }

    private static void fromTheLeftOn() {
        Check.sentence("Terms I", "All from the left on");
        value("10-3-2", 5);
        value("10-3+2", 9);
        value("100/10/5", 2);
        value("100/10*5", 50);
        value("7*3/2", 10);
        value("7/2*3", 9);
        value("2+3*4", 14);
        value("2*3+4", 10);
        value("20-2*3-4/2", 12);
        value("1-2-3-4-5-6-7-8-9", -43);
        value("10-(3-2)", 9);
    }

    private static void notAbove() {
        Check.sentence("Terms I", "/ gives the greatest whole number not above");
        value("6/3", 2);
        value("7/3", 2);
        value("8/3", 2);
        value("(0-6)/3", -2);
        value("(0-7)/3", -3);
        value("(0-8)/3", -3);
        value("7/(0-3)", -3);
        value("6/(0-3)", -2);
        value("(0-7)/(0-3)", 2);
        value("1/9999", 0);
        value("(0-1)/9999", -1);
        value("1/(0-9999)", -1);
        value("0/(0-9999)", 0);
        value("9999/1", 9999);
    }

    private static void byNought() {
        Check.sentence("Terms I", "by 0 it gives 0");
        value("0/0", 0);
        value("1/0", 0);
        value("(0-1)/0", 0);
        value(MOST + "/0", 0);
        value("(0-" + MOST + ")/0", 0);
        value("5/many", 0);
        value("5/(3-3)*7+2", 2);
        value("5/of p", 0);
        value("0/0000", 0);
    }

    private static void sumsBounded() {
        Check.sentence("Terms I", "each sum .. above 10 to the 9 is that, below -10 to the 9 likewise");
        value("999*1000*1000+1000*999+999", GREATEST - 1);
        value("999*1000*1000+1000*999+1000", GREATEST);
        value("999*1000*1000+1000*999+1001", GREATEST);
        value(MOST + "+1", GREATEST);
        value(MOST + "+9999", GREATEST);
        value(MOST + "+" + MOST, GREATEST);
        value("(0-" + MOST + ")+(0-1)", -GREATEST);
        value("(0-" + MOST + ")+(0-" + MOST + ")", -GREATEST);
        value("(0-" + MOST + ")+1", 1 - GREATEST);
        value("(0-" + MOST + ")+" + MOST, 0);
    }

    private static void differencesBounded() {
        Check.sentence("Terms I", "difference .. above 10 to the 9 is that, below -10 to the 9 likewise");
        value("0-" + MOST, -GREATEST);
        value("1-" + MOST, 1 - GREATEST);
        value("0-" + MOST + "-1", -GREATEST);
        value("0-" + MOST + "-" + MOST, -GREATEST);
        value(MOST + "-(0-1)", GREATEST);
        value(MOST + "-(0-" + MOST + ")", GREATEST);
        value(MOST + "-1", GREATEST - 1);
        value(MOST + "-" + MOST, 0);
    }

    private static void productsBounded() {
        Check.sentence("Terms I", "product above 10 to the 9 is that, below -10 to the 9 likewise");
        value(MOST, GREATEST);
        value("1000*1000*999", 999000000);
        value("1000*1000*1001", GREATEST);
        // 31622 times itself is less than 10 to the 9, 31623 times itself is more.
        String root = "(3*9999+1625";
        value(root + ")*" + root + ")", 999950884);
        value(root + "+1)*" + root + "+1)", GREATEST);
        value("(0-" + root + "))*" + root + ")", -999950884);
        value("(0-" + root + "+1))*" + root + "+1)", -GREATEST);
        value("(0-" + root + "+1))*(0-" + root + "+1))", GREATEST);
        value(MOST + "*0", 0);
        value(MOST + "*(0-1)", -GREATEST);
    }

    private static void noWrapAround() {
        Check.sentence("Terms I", "product above 10 to the 9 is that");
        // 46341 squared is above 2 to the 31, 65536 squared is 2 to the 32, 92682 squared is above that.
        value("(4*9999+6345)*(4*9999+6345)", GREATEST);
        value("256*256*(256*256)", GREATEST);
        value("(9*9999+2691)*(9*9999+2691)", GREATEST);
        value("(0-256*256)*(256*256)", -GREATEST);
        value(MOST + "*(" + MOST + ")", GREATEST);
        value("(0-" + MOST + ")*(" + MOST + ")", -GREATEST);
        value("(0-" + MOST + ")*(0-" + MOST + ")", GREATEST);
        value("9999*9999*9999*9999*9999*9999", GREATEST);
    }

    private static void eachIsBounded() {
        Check.sentence("Terms I", "each sum, difference, product");
        value(MOST + "+1-1", GREATEST - 1);
        value(MOST + "+" + MOST + "-" + MOST, 0);
        value("0-" + MOST + "-1+1", 1 - GREATEST);
        value(MOST + "*2/2", 500000000);
        value(MOST + "*9999/9999", 100010);
        value("9999*9999*9999-1", GREATEST - 1);
    }

    private static void quotients() {
        Check.sentence("Terms I", "/ gives the greatest whole number not above");
        value(MOST + "/(0-1)", -GREATEST);
        value("(0-" + MOST + ")/(0-1)", GREATEST);
        value("(0-" + MOST + ")/1", -GREATEST);
        value("1/(" + MOST + ")", 0);
        value("(0-1)/(" + MOST + ")", -1);
        value("(0-" + MOST + ")/(" + MOST + ")", -1);
        value("(0-" + MOST + ")/9999", -100011);
    }

    private static void leastAndGreatest() {
        Check.sentence("Terms I", "min ( SUM , SUM ) ; max ( SUM , SUM )");
        value("min(3,3)", 3);
        value("max(3,3)", 3);
        value("min(3,4)", 3);
        value("min(4,3)", 3);
        value("max(3,4)", 4);
        value("max(4,3)", 4);
        value("min(0-3,0-4)", -4);
        value("max(0-3,0-4)", -3);
        value("min(0," + MOST + ")", 0);
        value("max(0-" + MOST + "," + MOST + ")", GREATEST);
        value("min(1+2,2*2)*max(7-2,6/2)", 15);
        value("min(max(1,2),max(3,min(4,5)))", 2);
    }

    private static void signs() {
        Check.sentence("Terms I", "SUM SIGN SUM, SIGN being < or > or =");
        int[][] pairs = {{0, 0}, {0, 1}, {1, 0}, {9999, 9999}, {9998, 9999}, {9999, 9998}};
        for (int[] pair : pairs) {
            Check.due(pair[0] + " < " + pair[1], holds(pair[0] + "<" + pair[1]), pair[0] < pair[1]);
            Check.due(pair[0] + " > " + pair[1], holds(pair[0] + ">" + pair[1]), pair[0] > pair[1]);
            Check.due(pair[0] + " = " + pair[1], holds(pair[0] + "=" + pair[1]), pair[0] == pair[1]);
            Check.due("0-" + pair[0] + " < 0-" + pair[1], holds("0-" + pair[0] + "<0-" + pair[1]), pair[0] > pair[1]);
        }
    }

    private static void orsAndAnds() {
        Check.sentence("Terms I", "TEST: BOTH { or BOTH }. BOTH: FACT { and FACT }.");
        String[] facts = {"1=2", "1=1"};
        for (int n = 0; n < 16; n++) {
            boolean a = (n & 1) != 0;
            boolean b = (n & 2) != 0;
            boolean c = (n & 4) != 0;
            boolean d = (n & 8) != 0;
            String[] f = {facts[n & 1], facts[n >> 1 & 1], facts[n >> 2 & 1], facts[n >> 3 & 1]};
            Check.due("and or and " + n, holds(f[0] + " and " + f[1] + " or " + f[2] + " and " + f[3]), a && b || c && d);
            Check.due("or and or " + n, holds(f[0] + " or " + f[1] + " and " + f[2] + " or " + f[3]), a || b && c || d);
            Check.due("[or] and [or] " + n, holds("[" + f[0] + " or " + f[1] + "]and[" + f[2] + " or " + f[3] + "]"),
                    (a || b) && (c || d));
            Check.due("not and not " + n, holds("not " + f[0] + " and not " + f[1]), !a && !b);
            Check.due("not [or] " + n, holds("not[" + f[0] + " or " + f[1] + "]and " + f[2]), !(a || b) && c);
        }
        Check.due("many ands", holds("1=1 and ".repeat(60) + "1=1"), true);
        Check.due("the last of many", holds("1=1 and ".repeat(60) + "1=2"), false);
        Check.due("many ors", holds("1=2 or ".repeat(60) + "1=1"), true);
        Check.due("none of many", holds("1=2 or ".repeat(60) + "1=2"), false);
    }

    private static void nots() {
        Check.sentence("Terms I", "FACT: not FACT");
        for (int n = 0; n <= 220; n += n < 6 ? 1 : 53) {
            Check.due(n + " nots of what holds", holds("not ".repeat(n) + "all"), n % 2 == 0);
            Check.due(n + " nots of what does not", holds("not ".repeat(n) + "1=2"), n % 2 == 1);
        }
        Check.due("of the whole comparison", holds("not 1=2"), true);
        Check.due("of the first fact alone", holds("not 1=1 or all"), true);
    }

    private static void allHolds() {
        Check.sentence("Terms I", "; all;");
        Check.due("of the SET of none", holds("all"), true);
        UnbeatenHouse x = Check.of(Texts.powers(3, "rule all;"));
        Check.due("of all sets", x.front(2, 0, 0), 8);
        UnbeatenHouse y = Check.of(Texts.powers(3, "rule not all;"));
        Check.due("of no set", y.front(2, 0, 0), 0);
    }

    private static void hasOne() {
        Check.sentence("Terms I", "(Of a set of THINGS: whether it has one");
        for (int i = 0; i < 12; i++) {
            // Of 4096 sets those few that are but this one thing, or all but this one.
            char c = (char) ('a' + i);
            UnbeatenHouse x = Check.of(Texts.powers(12, "rule has t" + c + " and many=1;"));
            Check.due("one has t" + c, x.front(2, 0, 0), 1);
            Check.due("which", x.who(0), 1 << i);
            UnbeatenHouse y = Check.of(Texts.powers(12, "rule not has t" + c + " and many=11;"));
            Check.due("one has not t" + c, y.front(2, 0, 0), 1);
            Check.due("which", y.who(0), 4095 - (1 << i));
        }
    }

    private static void howMany() {
        Check.sentence("Terms I", "how many it has");
        int[] due = {1, 12, 66, -2, -2, -2, -2, -2, -2, -2, 66, 12, 1};
        for (int n = 0; n <= 12; n++) {
            UnbeatenHouse x = Check.of(Texts.powers(12, "rule many=" + n + ";"));
            Check.due("sets of " + n, x.front(2, 0, 0), due[n]);
        }
        Check.due("more than there are", Check.of(Texts.powers(12, "rule many>12;")).front(2, 0, 0), 0);
        Check.due("less than none", Check.of(Texts.powers(12, "rule many<0;")).front(2, 0, 0), 0);
    }

    private static void ofAWish() {
        Check.sentence("Terms I", "what they have of a WISH together");
        StringBuilder t = new StringBuilder("wish p less;wish q more;wish r less;wish s more;");
        for (int i = 0; i < 12; i++) {
            t.append("thing t").append((char) ('a' + i)).append(" 9999 9999 0 1;");
        }
        String[] tests = {"of p=119*1000+988", "of q=119*1000+988", "of r=0 and many=12", "of s=12"};
        for (String test : tests) {
            UnbeatenHouse x = Check.of(t + "rule " + test + ";");
            Check.due(test, x.front(2, 0, 0), 1);
            Check.due("all of them", x.who(0), 4095);
            Check.due("what is more is no less", Check.of(t + "rule " + test + ";rule of q<0;").front(2, 0, 0), 0);
        }
        UnbeatenHouse y = Check.of(t + "rule of p+of q+of r+of s=0;");
        Check.due("of none", y.front(2, 0, 0), 1);
        Check.due("the SET of none", y.who(0), 0);
    }

    private static void rulesOfAll() {
        Check.sentence("Terms II", "for which the TESTS of all rules hold");
        Check.due("no rule", Check.of(Texts.powers(2, "")).front(2, 0, 0), 4);
        Check.due("twelve that hold", Check.of(Texts.powers(2, "rule all;".repeat(12))).front(2, 0, 0), 4);
        for (int i = 0; i < 12; i++) {
            String one = "rule all;".repeat(i) + "rule has tb;" + "rule all;".repeat(11 - i);
            Check.due("one that not all hold", Check.of(Texts.powers(2, one)).front(2, 0, 0), 2);
            String none = "rule all;".repeat(i) + "rule not all;" + "rule all;".repeat(11 - i);
            Check.due("one that none holds", Check.of(Texts.powers(2, none)).front(2, 0, 0), 0);
        }
    }

    /** As much as can wait to be worked off: what is left of each bracket, sum and product. */
    private static void deepest() {
        Check.sentence("Terms I", "a 9th ( [ that is open at once");
        // Each but the first bracket has 1 + 1 * 1 ahead of it, so 8 grows by 2 seven times, and by 1.
        value("1+1*max(1,1+1*".repeat(8) + "7" + ")".repeat(8), 23);
        value("1+2*(".repeat(8) + "3" + ")".repeat(8), 1023);
        value("min(9000,1+2*max(0,".repeat(4) + "3" + "))".repeat(4), 63);
        Check.due("all that waits", holds("1=2 or all and not not[".repeat(4) + "max(1+1*2,1+1*".repeat(4) + "9"
                + ")".repeat(4) + "=1+3*4" + "]".repeat(4)), true);
        Check.due("and does not hold", holds("1=2 or all and not not[".repeat(4) + "max(1+1*2,1+1*".repeat(4) + "9"
                + ")".repeat(4) + "=2+3*4" + "]".repeat(4)), false);
    }

    /** Whatever a program takes words for: no number is one of them. */
    private static void numbersAreNoWords() {
        Check.sentence("Terms I", "PART: NUMBER; many; of NAME");
        UnbeatenHouse x = new UnbeatenHouse();
        for (int n = 0; n <= 9999; n++) {
            if (n % 50 == 0) {
                x = new UnbeatenHouse();
            }
            Check.due("a number " + n, Check.text(x, "rule " + n + "=" + n + ";"), 1);
            Check.due("nothing that joins " + n, Check.text(x, "rule all " + n + " all;"), UnbeatenHouse.NONE);
            Check.due("its place " + n, x.fault(1), 9);
        }
    }
}
