import java.util.ArrayList;
import java.util.List;

/** Terms I, where a text can go on and where not: blanks, and each FAULT at the edge of what is none. */
public final class FaultEdgesTest {
    private static final String[] OWN = {"wish", "less", "more", "row", "knot", "tie", "thing", "rule", "or", "and",
        "not", "all", "has", "many", "of", "min", "max"};
    /** A text in which each kind of STATEMENT and each form of a TEST stands. */
    private static final String[] TOKENS = ("wish p less ; wish q more ; row ra 1 ~ 2 3 ; row rb ? 4 ; knot ka ; knot kb ; "
            + "tie ka kb 3 5 ; thing ta 4 6 ; rule not has ta and [ ( 1 + 2 ) * min ( 3 , many ) / of p < 4 or "
            + "max ( 5 , 6 ) > 7 - of q and all ] ;").split(" ");
    private static final List<String> GIVEN = List.of("wish", "row", "knot", "thing");
    private static final List<String> NAMES = List.of("p", "q", "ra", "rb", "ka", "kb", "ta");

    private FaultEdgesTest() {
    }

    public static void main(String[] args) {
        whatIsBlank();
        blanksWhereOneLikes();
        sideBySide();
        endsTooSoon();
        noByteOfAText();
        leftOut();
        wholeAtTheirFirstByte();
        tooLong();
        ownWords();
        nearlyOwnWords();
        givenTwice();
        noneOfTheKind();
        sameKnot();
        ninthBracket();
        bracketsOfAllKinds();
        outOfTurn();
        firstAlongTheText();
        Check.finish("FaultEdgesTest");
    }

    private static boolean isLetter(char sign) {
        return sign >= 'a' && sign <= 'z';
    }

    private static boolean isDigit(char sign) {
        return sign >= '0' && sign <= '9';
    }

    private static boolean isLong(String token) {
        return isLetter(token.charAt(0)) || isDigit(token.charAt(0));
    }

    /** The first tokens, with blanks where they must be alone. */
    private static String first(int many) {
        StringBuilder t = new StringBuilder();
        for (int i = 0; i < many; i++) {
            t.append(i > 0 && isLong(TOKENS[i - 1]) && isLong(TOKENS[i]) ? " " : "").append(TOKENS[i]);
        }
        return t.toString();
    }

    /** Those behind the first so many tokens and one. */
    private static String behind(int many) {
        return " " + String.join(" ", List.of(TOKENS).subList(many + 1, TOKENS.length));
    }

    private static boolean isName(int token) {
        return NAMES.contains(TOKENS[token]);
    }

    private static boolean isGiven(int token) {
        return isName(token) && GIVEN.contains(TOKENS[token - 1]);
    }

    // ---- blanks

    private static void whatIsBlank() {
        Check.sentence("Terms I", "blanks (10, 32)");
        for (char c = 0; c < 256; c++) {
            boolean blank = c == 10 || c == 32;
            if (blank) {
                Check.sound(c + "knot a;", 1);
                Check.sound("knot a;" + c, 1);
                Check.sound("knot" + c + "a" + c + ";", 1);
            } else {
                Check.faulty(c + "knot a;", 1, 0);
                Check.faulty("knot a;" + c, 1, 7);
            }
            if (blank || isLetter(c)) {
                Check.sound("knot a" + c + ";", 1);
            } else {
                Check.faulty("knot a" + c + ";", 1, c == ';' ? 7 : 6);
            }
        }
    }

    private static void blanksWhereOneLikes() {
        Check.sentence("Terms I", "with blanks (10, 32) between where one likes");
        Check.sound(first(TOKENS.length), 9);
        Check.sound(String.join(" ", TOKENS), 9);
        Check.sound("\n" + String.join("\n", TOKENS) + "\n", 9);
        Check.sound("  " + String.join(" \n ", TOKENS) + "\n\n", 9);
        for (int i = 0; i <= TOKENS.length; i++) {
            String rest = i < TOKENS.length ? TOKENS[i] + behind(i) : "";
            Check.sound(first(i) + " \n\n  " + rest, 9);
        }
        Check.faulty("wi sh p less;", 1, 0);
        Check.faulty("wish p less;row ra 1 2;", 1, 21);
    }

    private static void sideBySide() {
        Check.sentence("Terms I", "(WORDS and NUMBERS side by side need one)");
        int pairs = 0;
        for (int i = 1; i < TOKENS.length; i++) {
            char last = TOKENS[i - 1].charAt(0);
            char next = TOKENS[i].charAt(0);
            if (isLetter(last) && isDigit(next) || isDigit(last) && isLetter(next)) {
                Check.faulty(first(i) + TOKENS[i] + behind(i), 1, first(i).length());
                pairs++;
            }
        }
        Check.due("pairs", pairs, 4);
        // A sign beside either needs none.
        Check.sound("rule 1=1;rule all and 1<2and[all]or(1)=1;".replace("2and", "2 and"), 2);
        Check.faulty("rule 1<2and all;", 1, 8);
        Check.faulty("rule 1<2 and3=3;", 1, 12);
    }

    // ---- fault 1

    private static void endsTooSoon() {
        Check.sentence("Terms I", "at the text's length, if it ends too soon");
        int statements = 0;
        for (int i = 0; i <= TOKENS.length; i++) {
            String text = first(i);
            boolean whole = i == 0 || TOKENS[i - 1].equals(";");
            for (String blanks : new String[] {"", " ", "\n\n \n"}) {
                if (whole) {
                    Check.sound(text + blanks, statements + (i > 0 ? 1 : 0));
                } else {
                    Check.faulty(text + blanks, 1, text.length() + blanks.length());
                }
            }
            statements += whole && i > 0 ? 1 : 0;
        }
    }

    private static void noByteOfAText() {
        Check.sentence("Terms I", "1 the first byte with which no TEXT goes on");
        for (int i = 0; i <= TOKENS.length; i++) {
            String text = first(i);
            for (char sign : new char[] {'!', '{', 0, 9, 128, 255}) {
                Check.faulty(text + sign, 1, text.length());
                Check.faulty(text + " " + sign + " ;", 1, text.length() + 1);
            }
        }
        // Signs of a TEXT where they can't stand.
        Check.faulty("wish p less;row ra 1?;", 1, 20);
        Check.faulty("wish p less;row ra ~;", 1, 19);
        Check.faulty("rule 1+=1;", 1, 7);
        Check.faulty("rule 1==1;", 1, 7);
        Check.faulty("rule 1=1];", 1, 8);
        Check.faulty("rule 1=1);", 1, 8);
        Check.faulty("rule );", 1, 5);
        Check.faulty("rule ];", 1, 5);
        Check.faulty("rule ();", 1, 6);
        Check.faulty("rule [];", 1, 6);
        Check.faulty("rule (1,2)=1;", 1, 7);
        Check.faulty("rule min(1,2,3)=1;", 1, 12);
        Check.faulty("rule min(,2)=1;", 1, 9);
        Check.faulty("rule 1=1,2;", 1, 8);
    }

    /** The text without one of its tokens: mostly the next one is told, but a few can stand in for what is left out. */
    private static void leftOut() {
        Check.sentence("Terms I", "1 the first byte with which no TEXT goes on");
        int[][] further = {{11, 1}, {12, 1}, {17, 1}, {27, 1}, {29, 1}, {34, 1}, {42, 31}, {43, 3}, {47, 10}, {49, 2},
            {54, 3}, {61, 2}};
        for (int i = 0; i < TOKENS.length; i++) {
            List<String> rest = new ArrayList<>(List.of(TOKENS));
            String token = rest.remove(i);
            int told = i;
            for (int[] one : further) {
                told += one[0] == i ? one[1] : 0;
            }
            String text = String.join(" ", rest) + " ";
            String ahead = String.join(" ", rest.subList(0, told)) + (told > 0 ? " " : "");
            if (token.equals("not")) {
                Check.sound(text, 9);
            } else {
                Check.faulty(text, 1, ahead.length());
            }
        }
    }

    private static void wholeAtTheirFirstByte() {
        Check.sentence("Terms I", "(WORDS, NUMBERS whole, at their first byte");
        for (int i = 0; i < TOKENS.length; i++) {
            int at = first(i).length() + 1;
            for (String word : new String[] {"z", "zzz", "zzzzzz"}) {
                if (!isName(i)) {
                    Check.faulty(first(i) + " " + word + behind(i), 1, at);
                }
            }
            for (String number : new String[] {"5", "5555"}) {
                if (isName(i) || TOKENS[i].equals(";")) {
                    Check.faulty(first(i) + " " + number + behind(i), 1, at);
                }
            }
            if (isDigit(TOKENS[i].charAt(0))) {
                Check.sound(first(i) + " 9999" + behind(i), 9);
            }
        }
        // An OWN WORD that is cut short, or goes on, is another WORD.
        Check.faulty("wis p less;", 1, 0);
        Check.faulty("wishe p less;", 1, 0);
        Check.faulty("wish p les;", 1, 7);
        Check.faulty("wish p lesss;", 1, 7);
        Check.faulty("rule al;", 1, 5);
        Check.faulty("rule alll;", 1, 5);
    }

    private static void tooLong() {
        Check.sentence("Terms I", "a 7th letter, a 5th digit at itself, whatever may stand there");
        for (int i = 0; i <= TOKENS.length; i++) {
            String text = first(i) + " ";
            Check.faulty(text + "abcdefg", 1, text.length() + 6);
            Check.faulty(text + "wishrowknot ;", 1, text.length() + 6);
            Check.faulty(text + "12345", 1, text.length() + 4);
            Check.faulty(text + "000000000 ;", 1, text.length() + 4);
            if (i > 0 && !isLong(TOKENS[i - 1])) {
                Check.faulty(first(i) + "abcdefg", 1, text.length() + 5);
                Check.faulty(first(i) + "12345", 1, text.length() + 3);
            }
        }
    }

    private static void ownWords() {
        Check.sentence("Terms I", "an OWN WORD where a NAME must be");
        for (int i = 0; i < TOKENS.length; i++) {
            for (String own : OWN) {
                if (isName(i)) {
                    Check.faulty(first(i) + " " + own + behind(i), 1, first(i).length() + 1);
                }
            }
        }
    }

    private static void nearlyOwnWords() {
        Check.sentence("Terms I", "OWN WORDS, which no NAME is: wish, less, more, row, knot, tie, thing, rule, or, "
                + "and, not, all, has, many, of, min, max");
        for (String own : OWN) {
            String cut = own.substring(0, own.length() - 1);
            for (String name : new String[] {cut, own + "s", "x" + own}) {
                Check.sound("knot " + name + ";", 1);
                Check.sound("wish " + name + " more;", 1);
                Check.sound("wish p less;row " + name + " 1;", 2);
                Check.sound("wish p less;thing " + name + " 1;rule has " + name + ";", 3);
            }
        }
    }

    // ---- faults 2 and 3

    private static void givenTwice() {
        Check.sentence("Terms I", "NAMES are unlike ones of all kinds together. .. "
                + "2 a NAME to be given that is there already, at its first byte");
        String[] kinds = {"wish @ more;", "knot @;", "row @ 1;", "thing @ 1;"};
        for (int a = 0; a < 4; a++) {
            for (int b = 0; b < 4; b++) {
                boolean turned = b == 0 && a > 1;
                String once = (a == 0 ? "rule all;" : "wish p less;") + kinds[a].replace("@", "nn");
                String twice = kinds[b].replace("@", "nn");
                int at = once.length() + twice.indexOf("nn");
                Check.faulty(once + twice, turned ? 6 : 2, turned ? once.length() : at);
                if (!turned) {
                    Check.sound(once + kinds[b].replace("@", "n"), 3);
                    Check.sound(once + kinds[b].replace("@", "nnn"), 3);
                    Check.faulty(once + "\n\n" + twice.replace(" nn", "   nn"), 2, at + 4);
                }
            }
        }
        // It is there as soon as it is given, and told ahead of what follows it.
        Check.faulty("wish p p;", 1, 7);
        Check.faulty("knot nn;knot nn!", 2, 13);
        Check.faulty("knot nn;knot nn12345;", 2, 13);
        // A refused text gives none.
        UnbeatenHouse x = new UnbeatenHouse();
        Check.text(x, "knot nn;knot nn;");
        Check.due("the next text", Check.text(x, "knot nn;"), 1);
        Check.due("and the next", Check.text(x, "knot nn;"), 1);
    }

    private static void noneOfTheKind() {
        Check.sentence("Terms I", "3 a NAME that is none of the kind that is asked .. , at its first byte");
        for (int i = 0; i < TOKENS.length; i++) {
            if (isName(i) && !isGiven(i)) {
                int at = first(i).length() + 1;
                for (String name : new String[] {"p", "ra", "ka", "kb", "ta", "zz", "zzzzzz"}) {
                    boolean fits = name.charAt(0) == TOKENS[i].charAt(0) || name.equals("p") && TOKENS[i].equals("q");
                    if (!fits) {
                        Check.faulty(first(i) + " " + name + behind(i), 3, at);
                        Check.faulty(first(i) + " " + name + " 12345", 3, at);
                    }
                }
            }
        }
        // Of no kind yet; and of the kind, but in an earlier text.
        Check.faulty("wish p less;rule has ta;thing ta 1;", 3, 21);
        Check.faulty("rule of p=1;wish p less;", 3, 8);
        Check.faulty("wish p less;knot ka;tie ka kb 1;knot kb;", 3, 27);
        UnbeatenHouse x = Check.of("wish p less;thing ta 1;");
        Check.due("of an earlier text", Check.text(x, "wish p less;rule has ta;"), -1);
        Check.due("fault", x.fault(0), 3);
        Check.due("place", x.fault(1), 21);
    }

    private static void sameKnot() {
        Check.sentence("Terms I", "(from the first KNOT to the second one, unlike ones) .. (or the same KNOT again)");
        String ahead = "wish p less;knot ka;knot kb;";
        Check.faulty(ahead + "tie ka ka 1;", 3, 35);
        Check.faulty(ahead + "tie kb kb 1;", 3, 35);
        Check.faulty(ahead + "tie kb  \n kb", 3, 38);
        Check.sound(ahead + "tie ka kb 1;tie kb ka 1;tie ka kb 1;", 6);
    }

    // ---- fault 5: brackets

    private static void ninthBracket() {
        Check.sentence("Terms I", "a 9th ( [ that is open at once, at itself");
        for (int square = 0; square <= 8; square++) {
            String open = "rule " + "[".repeat(square) + "(".repeat(8 - square);
            String closed = ")".repeat(8 - square) + (square < 8 ? "=1" : "") + "]".repeat(square) + ";";
            Check.sound(open + (square < 8 ? "1" : "all") + closed, 1);
            Check.faulty(open + "(1)" + closed, 5, 13);
            Check.faulty(open + "min(1,2)" + closed, 5, 16);
            Check.faulty(open + " max \n (1,2)" + closed, 5, 20);
            if (square == 8) {
                Check.faulty(open + "[all]" + closed, 5, 13);
                Check.faulty(open + "not [all]" + closed, 5, 17);
            }
        }
    }

    private static void bracketsOfAllKinds() {
        Check.sentence("Terms I", "that is open at once");
        // Seven that stay open and an eighth one, again and again.
        String seven = "rule [[[[min(1,max(2,(3";
        String closed = ")))=1]]]];";
        Check.sound(seven + closed, 1);
        Check.sound(seven + "+(4)*min(5,6)-max(7,8)/(9)" + closed, 1);
        Check.faulty(seven + "+(4)*min(5,(6))" + closed, 5, 34);
        Check.faulty(seven + "+((4))" + closed, 5, 25);
        Check.sound("rule [[[[[[[[all]]]]]]]]and[[[[[[[[all]]]]]]]]or((((((((1))))))))=1;rule [[[[[[[[all]]]]]]]];", 2);
        Check.faulty("rule [[[[[[[[all]]]]]]]]and[[[[[[[[[all", 5, 35);
        // Those that an earlier text, or a faulty one, has left open don't count.
        UnbeatenHouse x = new UnbeatenHouse();
        for (int i = 0; i < 3; i++) {
            Check.text(x, "rule [[[[[[[[(");
            Check.due("nine", x.fault(0), 5);
            Check.text(x, "rule ((((((((");
            Check.due("eight", x.fault(0), 1);
            Check.due("closed", Check.text(x, "rule ((((((((1))))))))=1;"), 1);
        }
    }

    // ---- fault 6, and the first of many

    private static void outOfTurn() {
        Check.sentence("Terms I", "6 a wish behind a row, tie or thing, one of these without a WISH ahead, "
                + "at its first byte");
        String ahead = "knot ka;knot kb;";
        for (String judged : new String[] {"row ra 1;", "tie ka kb 1;", "thing ta 1;"}) {
            Check.faulty(ahead + judged, 6, 16);
            Check.faulty(ahead + "rule all; \n" + judged, 6, 27);
            String told = ahead + "wish p less;" + judged;
            Check.sound(told, 4);
            Check.faulty(told + "wish q less;", 6, told.length());
            Check.faulty(told + "  wish", 6, told.length() + 2);
            for (String other : new String[] {"row rb 1;", "tie kb ka 1;", "thing tb 1;", "knot kc;", "rule all;"}) {
                Check.sound(told + other, 5);
                Check.faulty(told + other + "wish q less;", 6, told.length() + other.length());
            }
        }
        // A knot or a rule is none of these.
        Check.sound("knot ka;wish p less;rule all;wish q less;knot kb;", 5);
        Check.faulty("row", 6, 0);
        Check.faulty("tie!", 6, 0);
    }

    private static void firstAlongTheText() {
        Check.sentence("Terms I", "FAULTS, the first along the text");
        String ahead = "wish p less;row ra 1;" + "rule all;".repeat(11);
        String[] faulty = {"knot 5;", "knot ra;", "rule has ra;", "rule (((((((((1", "wish q less;", "knot abcdefg;",
            "knot a1;", "knot knot;", "tie ra rb 1;", "!"};
        int[] faults = {1, 2, 3, 5, 6, 1, 1, 1, 3, 1};
        int[] places = {5, 5, 9, 13, 0, 11, 6, 5, 4, 0};
        for (int i = 0; i < faulty.length; i++) {
            Check.faulty(ahead + faulty[i], faults[i], ahead.length() + places[i]);
            for (String next : faulty) {
                Check.faulty(ahead + faulty[i] + next, faults[i], ahead.length() + places[i]);
                Check.faulty(ahead + "knot kk;" + faulty[i] + " ;" + next, faults[i], ahead.length() + 8 + places[i]);
            }
        }
    }
}
