/** Promises 1 to 7: a new object, the tape, the text, its faults, what it has and its letters. */
public final class TextTest {
    private static final int NONE = UnbeatenHouse.NONE;
    private static final int SPACES = 0x20202020;

    private TextTest() {
    }

    public static void main(String[] args) {
        newObject();
        feeding();
        ending();
        telling();
        soundTexts();
        firstBytes();
        wholeWords();
        names();
        tooMany();
        turns();
        brackets();
        tests();
        counts();
        letters();
        oneBehindTheOther();
        fullTapes();
        Check.finish("TextTest");
    }

    private static void newObject() {
        UnbeatenHouse x = new UnbeatenHouse();
        for (int what = 0; what < 7; what++) {
            Check.due("new: has(" + what + ")", x.has(what), 0);
        }
        Check.due("new: grid", x.has(7), 4);
        Check.due("new: fault(0)", x.fault(0), 0);
        Check.due("new: fault(1)", x.fault(1), NONE);
        Check.due("new: rows", x.rows(), 0);
        Check.due("new: unsure", x.unsure(true) | x.unsure(false), 0);
        Check.due("new: changed", x.changed(true) | x.changed(false), 0);
        for (int what = 0; what < 3; what++) {
            Check.due("new: front(" + what + ")", x.front(what, 0, 1), NONE);
        }
        Check.due("new: near", x.near(0), NONE);
        Check.due("new: standIns", x.standIns(1), NONE);
        Check.due("new: kept", x.kept(0), NONE);
        Check.due("new: hole", x.hole(0), NONE);
        Check.due("new: loss", x.loss(0, 0), -2000000000);
        Check.due("new: agree", x.agree(), NONE);
        Check.due("new: could", x.could(), 0);
        Check.due("new: question", x.question(0), NONE);
        Check.due("new: quarrel", x.quarrel(), 0);
        Check.due("new: stop", x.stop(0), NONE);
        Check.due("new: choose", x.choose(0), NONE);
        Check.due("new: place", x.place(0, 0), NONE);
    }

    private static void feeding() {
        UnbeatenHouse x = new UnbeatenHouse();
        for (int i = 1; i <= 45; i++) {
            Check.due("feed " + i, x.feed(SPACES, SPACES, SPACES, SPACES, SPACES), 20 * i);
        }
        Check.due("feed 46", x.feed(-1, -1, -1, -1, -1), NONE);
        Check.due("end(881)", x.end(881), true);
        Check.due("feed behind 881", x.feed(-1, -1, -1, -1, -1), NONE);
        Check.due("end(880)", x.end(880), true);
        Check.due("feed behind 880", x.feed(SPACES, SPACES, SPACES, SPACES, SPACES), 900);
        Check.due("900 blanks", x.text(), 0);
        Check.due("the tape went", x.feed(-1, 0, 0, 0, 0), 20);
        Check.due("a byte of 255", x.text(), NONE);
        Check.due("its fault", x.fault(0), 1);
        Check.due("its place", x.fault(1), 0);

        // knot, a blank, ab, a semicolon: the highest byte of each number first.
        UnbeatenHouse y = new UnbeatenHouse();
        y.feed(0x6b6e6f74, 0x2061623b, SPACES, SPACES, 0x20202021);
        Check.due("end(19)", y.end(19), true);
        Check.due("a knot", y.text(), 1);
        Check.due("its letter 0", y.letter(2, 0, 0), 'a');
        Check.due("its letter 1", y.letter(2, 0, 1), 'b');
    }

    private static void ending() {
        UnbeatenHouse x = new UnbeatenHouse();
        Check.due("end(0) of none", x.end(0), true);
        Check.due("end(1) of none", x.end(1), false);
        Check.due("end(-1)", x.end(-1), false);
        x.feed(SPACES, SPACES, SPACES, SPACES, SPACES);
        Check.due("end(21)", x.end(21), false);
        Check.due("end least", x.end(Integer.MIN_VALUE), false);
        Check.due("end(20)", x.end(20), true);
        Check.due("end(7)", x.end(7), true);
        Check.due("end(8)", x.end(8), false);
        Check.due("feed behind 7", x.feed(0, 0, 0, 0, 0), 27);
    }

    private static void telling() {
        UnbeatenHouse x = Check.of("wish p less;row ra 1;row rb 2;knot ka;");
        Check.due("front", x.front(0, 0, 0), 1);
        x.near(0);
        x.change(1, 0, 0);
        x.rather(0, 1);
        x.person(0, 1, 0, 0, 0);
        x.bar(0, 1, true);
        x.grid(7);
        Check.due("a faulty text", Check.text(x, "wish p less;row p 1;"), NONE);
        Check.due("its fault", x.fault(0), 2);
        Check.due("its place", x.fault(1), 16);
        Check.due("fault(2)", x.fault(2), NONE);
        Check.due("fault(-1)", x.fault(-1), NONE);
        Check.due("all stays: rows", x.has(1), 2);
        Check.due("all stays: front", x.who(0), 0);
        Check.due("all stays: kept", x.kept(0), 0);
        Check.due("all stays: fell", x.changed(false), 1);
        Check.due("all stays: came", x.changed(true), 2);
        Check.due("all stays: sayings", x.has(6), 1);
        Check.due("all stays: the bar", x.choose(0), NONE);
        x.bar(0, 1, false);
        Check.due("all stays: weights", x.choose(0), 1);
        x.bar(0, 1, true);
        Check.due("the tape went", x.feed(0, 0, 0, 0, 0), 20);
        x.end(0);

        Check.due("a sound text", Check.text(x, "wish p less;row ra 1;row rb 0;"), 3);
        Check.due("fault(0)", x.fault(0), 0);
        Check.due("fault(1)", x.fault(1), NONE);
        Check.due("no front", x.who(0), NONE);
        Check.due("no front for near", x.near(0), NONE);
        Check.due("no front for hole", x.hole(0), NONE);
        Check.due("none kept", x.kept(0), NONE);
        Check.due("none fell", x.changed(false), 0);
        Check.due("none came", x.changed(true), 0);
        Check.due("no sayings", x.has(6), 0);
        Check.due("no weights", x.choose(0), NONE);
        x.person(1, 1, 0, 0, 0);
        Check.due("no bars", x.choose(0), 1);
        Check.due("the grid stays", x.has(7), 7);
        Check.due("text() of an empty tape", x.text(), 0);
        Check.due("no wishes then", x.has(0), 0);
    }

    private static void soundTexts() {
        Check.sound("", 0);
        Check.sound(" \n ", 0);
        Check.sound("wish a less;", 1);
        Check.sound("  wish\na\nmore  ;  ", 1);
        Check.sound("knot a;rule all;wish b less;", 3);
        Check.sound("wish abcdef less;row b 9999~9999;row c?;row d 0 ~ 0;", 4);
        Check.sound("wish a less;wish b less;row c?1~2;row d 1?;row e??;", 5);
        Check.sound("wish a less;knot b;knot c;tie b c 5;tie c b 0005;thing d 7;", 6);
        Check.sound("wish a less;rule of a<3;rule many>of a+1*2/3-(4);", 3);
        Check.sound("wish a less;thing t 1;rule not has t and[all or not not 1=2]or min(1,2)<max( 3 , of a );", 3);
    }

    private static void firstBytes() {
        Check.faulty("x", 1, 0);
        Check.faulty("Wish a less;", 1, 0);
        Check.faulty("\twish a less;", 1, 0);
        Check.faulty(";", 1, 0);
        Check.faulty("wish a less;;", 1, 12);
        Check.faulty("wish a less", 1, 11);
        Check.faulty("wish a less  ", 1, 13);
        Check.faulty("wish", 1, 4);
        Check.faulty("wish a", 1, 6);
        Check.faulty("wish a ;", 1, 7);
        Check.faulty("wish a les;", 1, 7);
        Check.faulty("wish a less more;", 1, 12);
        Check.faulty("wish 5 less;", 1, 5);
        Check.faulty("wish a less;row b;", 1, 17);
        Check.faulty("wish a less;row 5;", 1, 16);
        Check.faulty("wish a less;thing 5;", 1, 18);
        Check.faulty("wish a less;row ;", 1, 16);
        Check.faulty("wish less;", 1, 5);
        Check.faulty("wish a less;row b 1 2;", 1, 20);
        Check.faulty("wish a less;row b ?~1;", 1, 19);
        Check.faulty("wish a less;row b 1~;", 1, 20);
        Check.faulty("wish a less;row b 1~?;", 1, 20);
        Check.faulty("wish a less;row b -1;", 1, 18);
        Check.faulty("wish a less;thing b ?;", 1, 20);
        Check.faulty("wish a less;thing b 1~1;", 1, 21);
        Check.faulty("wish a less;knot b;knot c;tie b c ?;", 1, 34);
        Check.faulty("knot a;knot b c;", 1, 14);
        Check.faulty("less;", 1, 0);
        Check.faulty("knot a\u00e9;", 1, 6);
    }

    private static void wholeWords() {
        Check.faulty("wishes a less;", 1, 0);
        Check.faulty("abcdefg", 1, 6);
        Check.faulty("knot abcdefgh;", 1, 11);
        Check.faulty("wish a lessless;", 1, 13);
        Check.faulty("knot a abcdefgh;", 1, 13);
        Check.faulty("wish a less;row b 12345;", 1, 22);
        Check.faulty("12345", 1, 4);
        Check.faulty("knot a 99999;", 1, 11);
        // Six of its letters are no NAME that is there, or is none.
        Check.faulty("knot abcdef;knot abcdefg;", 1, 23);
        Check.faulty("knot abcdef;wish a less;tie abcdefg", 1, 34);
        Check.faulty("wish a less;rule of abcdefg=1;", 1, 26);
        // Words and numbers side by side need a blank.
        Check.faulty("wish a less;row b1;", 1, 17);
        Check.faulty("wish a less;rule not1=1;", 1, 20);
        Check.faulty("rule 1=1and all;", 1, 8);
        Check.faulty("rule 1=1or all;", 1, 8);
        Check.sound("rule 1=1 and 2=2;", 1);
        Check.faulty("wish a less;wish a1 less;", 2, 17);
        sideBySide();
    }

    /** Where a blank is missing, the first byte behind is told, however long the rest is. */
    private static void sideBySide() {
        String row = "wish a less;row b ";
        for (String digits : new String[] {"1", "1234", "12345", "123456789"}) {
            Check.faulty("knot a" + digits + ";", 1, 6);
            Check.faulty("knot abcdef" + digits + ";", 1, 11);
            Check.faulty("wish a less;row b" + digits + ";", 1, 17);
            Check.faulty("wish" + digits, 1, 4);
            Check.faulty("rule not" + digits + "=1;", 1, 8);
            Check.faulty("rule many" + digits + "=1;", 1, 9);
            Check.faulty("rule has" + digits, 1, 8);
            Check.faulty("rule min" + digits + "(1,2)=1;", 1, 8);
            Check.faulty("knot abcdefg" + digits + ";", 1, 11);
            Check.faulty("knot a " + digits + ";", 1, digits.length() > 4 ? 11 : 7);
            Check.faulty("knot a\n" + digits + ";", 1, digits.length() > 4 ? 11 : 7);
            Check.faulty("wish a less;wish a" + digits + " less;", 2, 17);
            Check.faulty("wish a less;knot b;tie b b" + digits + ";", 3, 25);
        }
        for (String letters : new String[] {"x", "and", "abcdef", "abcdefg", "abcdefghijkl"}) {
            Check.faulty(row + "1" + letters + ";", 1, 19);
            Check.faulty(row + "1234" + letters + ";", 1, 22);
            Check.faulty(row + "1~23" + letters + ";", 1, 22);
            Check.faulty("rule 1=2" + letters + " all;", 1, 8);
            Check.faulty("rule 1=2+34" + letters + " all;", 1, 11);
            Check.faulty("rule 5" + letters + "5678901", 1, 6);
            Check.faulty(row + "12345" + letters + ";", 1, 22);
            Check.faulty(row + "1 " + letters + ";", 1, letters.length() > 6 ? 26 : 20);
        }
        // A sign between needs no blank: there a 5th digit, a 7th letter is told at itself.
        Check.faulty("knot a;12345", 1, 11);
        Check.faulty("knot a;abcdefg", 1, 13);
        Check.faulty(row + "?12345;", 1, 23);
        Check.faulty(row + "?abcdefg;", 1, 25);
        Check.faulty("rule (12345", 1, 10);
    }

    private static void names() {
        String[] own = {"wish", "less", "more", "row", "knot", "tie", "thing", "rule", "or", "and", "not", "all",
            "has", "many", "of", "min", "max"};
        for (String word : own) {
            Check.faulty("knot " + word + ";", 1, 5);
            Check.faulty("wish a less;rule has " + word + ";", 1, 21);
        }
        String four = "wish a less;knot b;knot c;thing d 1;row e 2;";
        int at = four.length();
        for (String name : new String[] {"a", "b", "d", "e"}) {
            Check.faulty(four + "knot " + name + ";", 2, at + 5);
            Check.faulty(four + "row " + name + " 1;", 2, at + 4);
            Check.faulty(four + "thing " + name + " 1;", 2, at + 6);
        }
        Check.faulty("wish a less;wish a more;", 2, 17);
        for (String name : new String[] {"a", "d", "e", "f"}) {
            Check.faulty(four + "tie " + name + " b 1;", 3, at + 4);
            Check.faulty(four + "tie b " + name + " 1;", 3, at + 6);
        }
        Check.faulty(four + "tie b b 1;", 3, at + 6);
        for (String name : new String[] {"a", "b", "e", "f"}) {
            Check.faulty(four + "rule has " + name + ";", 3, at + 9);
        }
        for (String name : new String[] {"b", "d", "e", "f"}) {
            Check.faulty(four + "rule of " + name + "=1;", 3, at + 8);
        }
        // The one that comes first along the text is told, and a name is there only behind its statement.
        Check.faulty("wish a less;rule has t;thing t 1;", 3, 21);
        Check.faulty("wish a less;knot b;tie x b z;", 3, 23);
        Check.faulty("wish a less;row a", 2, 16);
        Check.sound(four + "tie b c 1;tie b c 1;tie c b 1;rule has d;rule of a=1;", 10);
    }

    private static String many(String statement, int n) {
        return Texts.each(statement.replace("@", "@z"), n, 'a');
    }

    private static void tooMany() {
        String one = "wish a less;";
        tooMany("", "wish @ more;", 4);
        tooMany(one, "row @ 1;", 40);
        tooMany("", "knot @;", 10);
        tooMany(one + "knot b;knot c;", "tie b c 1;", 24);
        tooMany(one, "thing @ 1;", 12);
        tooMany(one, "rule all;", 12);
        // A fifth wish is told at its first byte, however it goes on.
        Check.faulty(many("wish @ more;", 4) + "wish", 5, 60 - 4);
        Check.faulty(many("knot @;", 10) + "knot 5", 5, 90);
    }

    private static void tooMany(String ahead, String statement, int most) {
        String full = ahead + many(statement, most);
        UnbeatenHouse x = Check.of(full);
        int[] counts = {x.has(0), x.has(1), x.has(2), x.has(3), x.has(4), x.has(5)};
        boolean there = false;
        for (int count : counts) {
            there |= count == most;
        }
        Check.due(most + " of " + statement, there, true);
        Check.faulty(full + statement.replace("@", "q"), 5, full.length());
    }

    private static void turns() {
        Check.faulty("row a 1;", 6, 0);
        Check.faulty(" thing a 1;", 6, 1);
        Check.faulty("knot a;knot b;tie a b;", 6, 14);
        Check.faulty("wish a less;row b 1;wish c less;", 6, 20);
        Check.faulty("wish a less;thing b 1;wish c less;", 6, 22);
        Check.faulty("wish a less;knot b;knot c;tie b c 1;wish d less;", 6, 36);
        Check.faulty("row", 6, 0);
        Check.faulty("rowa", 1, 0);
        Check.sound("knot b;knot c;rule many=1;wish d less;tie b c 1;", 5);
    }

    private static void brackets() {
        Check.sound("rule ((((((((1))))))))=1;", 1);
        Check.faulty("rule (((((((((1)))))))))=1;", 5, 13);
        Check.sound("rule [[[[[[[[all]]]]]]]];", 1);
        Check.faulty("rule [[[[[[[[[all]]]]]]]]];", 5, 13);
        Check.faulty("rule [[[[[[[[(1)=1]]]]]]]];", 5, 13);
        Check.faulty("rule [[[[[[[min(1,(2))=1]]]]]]];", 5, 18);
        Check.sound("rule [[[[[[[min(1,2)+max(1,2)=(1)]]]]]]]and(1)=1;", 1);
        // Those that are closed again don't count.
        Check.sound("rule " + "[all]and ".repeat(20) + "all;", 1);
        Check.sound("rule " + "(1)+".repeat(20) + "1=1;", 1);
        Check.sound("rule " + "min(1,2)+".repeat(20) + "1=1;", 1);
        Check.sound("rule (1)=1;".repeat(12), 12);
        Check.faulty("rule [all]and(1)+min(1,2)=" + "(".repeat(9), 5, 34);
        // Where a bracket can't stand it is the first byte with which no text goes on.
        Check.faulty("rule [[[[[[[[all(", 1, 16);
        Check.faulty("rule ([all])=1;", 1, 6);
        Check.faulty("rule [all);", 1, 9);
        Check.faulty("rule (1]=1;", 1, 7);
        Check.faulty("rule (1=1);", 1, 7);
    }

    private static void tests() {
        Check.faulty("rule;", 1, 4);
        Check.faulty("rule 1;", 1, 6);
        Check.faulty("rule 1<;", 1, 7);
        Check.faulty("rule 1<2<3;", 1, 8);
        Check.faulty("rule 1<=2;", 1, 7);
        Check.faulty("rule -1<2;", 1, 5);
        Check.faulty("rule all all;", 1, 9);
        Check.faulty("rule not;", 1, 8);
        Check.faulty("rule all and;", 1, 12);
        Check.faulty("rule all or or;", 1, 12);
        Check.faulty("rule min 1=1;", 1, 9);
        Check.faulty("rule min(1)=1;", 1, 10);
        Check.faulty("rule min(1,2;", 1, 12);
        Check.faulty("rule many many=1;", 1, 10);
        Check.faulty("rule has;", 1, 8);
        Check.faulty("rule of;", 1, 7);
        Check.faulty("rule 1+<2;", 1, 7);
        Check.faulty("rule 1=1 not;", 1, 9);
        Check.faulty("rule not all", 1, 12);
        StringBuilder t = new StringBuilder("rule ");
        for (int i = 0; i < 220; i++) {
            t.append("not ");
        }
        Check.sound(t + "all;", 1);
    }

    /** What an earlier text has left behind must not count in the next one. */
    private static void oneBehindTheOther() {
        UnbeatenHouse x = new UnbeatenHouse();
        Check.due("brackets left open", Check.text(x, "rule [[[[((((1"), NONE);
        Check.due("are closed in the next one", Check.text(x, "rule [[[[((((1))))=1]]]];"), 1);
        Check.due("longer words behind", Check.text(x, "knot abcdef;knot bcdefg;"), 2);
        Check.due("a shorter text", Check.text(x, "knot abc"), NONE);
        Check.due("its place", x.fault(1), 8);
        Check.due("what was named then", Check.text(x, "wish abcdef less;rule of abcdef=0;"), 2);
        Check.due("its set", x.front(2, 0, 0), 1);
        Check.due("another rule", Check.text(x, "wish a less;rule of a=1;"), 2);
        Check.due("no set", x.front(2, 0, 0), 0);
        StringBuilder t = new StringBuilder("wish a less;rule 0");
        for (int i = 0; i < 400; i++) {
            t.append("+1");
        }
        for (int i = 0; i < 6; i++) {
            Check.due("a long rule " + i, Check.text(x, t + "=40" + i % 2 + ";"), 2);
            Check.due("its sets " + i, x.front(2, 0, 0), 1 - i % 2);
        }
    }

    private static String padded(String text, int length) {
        StringBuilder t = new StringBuilder(text);
        while (t.length() < length) {
            t.insert(0, ' ');
        }
        return t.toString();
    }

    private static void fullTapes() {
        Check.sound(padded("knot abcdef;", 900), 1);
        Check.faulty(padded("knot abcdef", 900), 1, 900);
        Check.faulty(padded("rule 1=9999", 900), 1, 900);
        Check.faulty(padded("knot abcdefg", 900), 1, 899);
        StringBuilder t = new StringBuilder("rule 1");
        while (t.length() < 896) {
            t.append("+1");
        }
        Check.sound(t + "=1;", 1);
        t.setLength(0);
        for (int i = 0; i < 10; i++) {
            t.append("knot k").append((char) ('a' + i)).append(';');
        }
        Check.sound(t.toString(), 10);
    }

    private static void counts() {
        UnbeatenHouse x = Check.of("wish a less;wish b less;knot c;knot d;knot e;tie c d 1 2;row f 1 2;row g 1 2;"
                + "row h 1 2;row i 1 2;thing j 1 2;thing k 1 2;thing l 1 2;thing m 1 2;thing n 1 2;rule all;rule all;"
                + "rule all;rule all;rule all;rule all;");
        int[] due = {2, 4, 3, 1, 5, 6, 0, 4};
        for (int what = 0; what < due.length; what++) {
            Check.due("has(" + what + ")", x.has(what), due[what]);
        }
        x.rather(0, 1);
        x.grid(9);
        Check.due("has(6)", x.has(6), 1);
        Check.due("has(7)", x.has(7), 9);
        Check.due("has(8)", x.has(8), NONE);
        Check.due("has(-1)", x.has(-1), NONE);
    }

    private static void letters() {
        UnbeatenHouse x = Check.of("wish az less;row abcdef 1;knot zz;knot q;tie zz q 1;thing thingy 1;rule all;");
        Check.due("wish 0 letter 0", x.letter(0, 0, 0), 'a');
        Check.due("wish 0 letter 1", x.letter(0, 0, 1), 'z');
        Check.due("wish 0 letter 2", x.letter(0, 0, 2), NONE);
        for (int k = 0; k < 6; k++) {
            Check.due("row 0 letter " + k, x.letter(1, 0, k), 'a' + k);
            Check.due("thing 0 letter " + k, x.letter(3, 0, k), "thingy".charAt(k));
        }
        Check.due("row 0 letter 6", x.letter(1, 0, 6), NONE);
        Check.due("row 0 letter -1", x.letter(1, 0, -1), NONE);
        Check.due("knot 1 letter 0", x.letter(2, 1, 0), 'q');
        Check.due("knot 1 letter 1", x.letter(2, 1, 1), NONE);
        Check.due("knot 2", x.letter(2, 2, 0), NONE);
        Check.due("knot -1", x.letter(2, -1, 0), NONE);
        Check.due("kind 4", x.letter(4, 0, 0), NONE);
        Check.due("kind -1", x.letter(-1, 0, 0), NONE);
        Check.due("far", x.letter(1, 0, Integer.MAX_VALUE), NONE);
    }
}
