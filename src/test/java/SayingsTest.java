/** Promises 28 to 34: sayings, what agrees, what could be, the question, the quarrel and the stop. */
public final class SayingsTest {
    private static final int NONE = UnbeatenHouse.NONE;
    // By weights (a, 4 - a): (0,4): 48 20 0; (1,3): 36 20 12; (2,2): 24 20 24; (3,1): 12 20 36; (4,0): 0 20 48.
    private static final String THREE = "wish p less;wish q less;row ra 0 12;row rb 5 5;row rc 12 0;row rd 13 13;row re ? 1;";

    private SayingsTest() {
    }

    public static void main(String[] args) {
        saying();
        agreeing();
        could();
        questions();
        likeQuestions();
        quarrels();
        noQuarrel();
        likeQuarrels();
        stops();
        again();
        Check.finish("SayingsTest");
    }

    private static void saying() {
        UnbeatenHouse x = Check.of(THREE);
        Check.due("unsay without", x.unsay(), NONE);
        Check.due("aside", x.rather(4, 0), NONE);
        Check.due("aside too", x.rather(0, 4), NONE);
        Check.due("the same", x.rather(1, 1), NONE);
        Check.due("no row", x.rather(0, 5), NONE);
        Check.due("row -1", x.rather(-1, 0), NONE);
        for (int i = 1; i <= 12; i++) {
            Check.due("rather " + i, x.rather(0, 1), i);
        }
        Check.due("rather 13", x.rather(0, 1), NONE);
        Check.due("unsay", x.unsay(), 11);
        Check.due("has(6)", x.has(6), 11);
        Check.due("rather again", x.rather(3, 0), 12);
        for (int i = 11; i >= 0; i--) {
            Check.due("unsay " + i, x.unsay(), i);
        }
        Check.due("unsay at last", x.unsay(), NONE);
    }

    private static void agreeing() {
        UnbeatenHouse x = Check.of(THREE);
        Check.due("all", x.agree(), 5);
        x.rather(0, 2);
        Check.due("ra rather than rc", x.agree(), 3);
        x.rather(1, 0);
        Check.due("rb rather than ra", x.agree(), 1);
        x.change(1, 0, NONE);
        Check.due("rb aside now", x.agree(), 3);
        x.change(1, 0, 6);
        // rb 6 5: by (2,2) 22 against 24.
        Check.due("rb has another price", x.agree(), 1);
        x.change(1, 0, 8);
        Check.due("rb has too much", x.agree(), 0);
        x.unsay();
        x.grid(1);
        Check.due("grid 1", x.agree(), 1);
    }

    private static void could() {
        UnbeatenHouse x = Check.of(THREE);
        Check.due("all corners", x.could(), 7);
        x.rather(0, 2);
        Check.due("ra rather than rc", x.could(), 3);
        x.rather(0, 1);
        Check.due("ra rather than rb", x.could(), 1);
        x.rather(2, 0);
        Check.due("none agrees", x.could(), 0);
        UnbeatenHouse y = Check.of(THREE);
        y.change(0, 0, NONE);
        Check.due("ra aside", y.could(), 2 + 4);
        y.front(0, 0, 0);
        y.change(2, 0, NONE);
        Check.due("of the rows now", y.could(), 2);
    }

    private static void questions() {
        UnbeatenHouse x = Check.of(THREE);
        // ra, rb: (3,1) (4,0) leave ra; else (0,4) (1,3) (2,2) leave rb, rc: 2. ra, rc: 2 or 2. rb, rc: rb leaves ra, rb.
        Check.due("A", x.question(0), 0);
        Check.due("B", x.question(1), 1);
        Check.due("leaves", x.question(2), 2);
        Check.due("question(3)", x.question(3), NONE);
        Check.due("question(-1)", x.question(-1), NONE);
        x.rather(0, 2);
        // (2,2) (3,1) (4,0) left: ra, rb splits into ra and rb.
        Check.due("A then", x.question(0), 0);
        Check.due("B then", x.question(1), 1);
        Check.due("leaves then", x.question(2), 1);
        x.rather(2, 1);
        Check.due("none agrees: the first", x.question(1), 1);
        Check.due("none agrees: none", x.question(2), 0);
        UnbeatenHouse y = Check.of("wish p less;row ra 1;row rb 2;");
        Check.due("one on the front", y.question(0), NONE);
        UnbeatenHouse z = Check.of("wish p less;row ra 3;row rb 1;row rc 2;row rd 1;");
        Check.due("like ones: A", z.question(0), 1);
        Check.due("like ones: B", z.question(1), 3);
        Check.due("like ones: both are left", z.question(2), 2);
        // With twelve sayings a question is still asked.
        for (int i = 0; i < 12; i++) {
            z.rather(1, 0);
        }
        Check.due("behind twelve", z.question(2), 2);
    }

    private static void likeQuestions() {
        // Four on a stair, by grid 11: ra, rd and rb, rc halve them, and ra, rc leaves three.
        UnbeatenHouse x = Check.of("wish p less;wish q less;row rz 99 99;row ra 0 60;row rb 10 30;row rc 30 10;row rd 60 0;");
        x.grid(11);
        Check.due("could", x.could(), 2 + 4 + 8 + 16);
        Check.due("leaves", x.question(2), 2);
        Check.due("A", x.question(0), 1);
        Check.due("B", x.question(1), 4);
    }

    private static void quarrels() {
        UnbeatenHouse x = Check.of(THREE);
        Check.due("without", x.quarrel(), 0);
        x.rather(0, 2);
        Check.due("one saying that can be", x.quarrel(), 0);
        x.rather(0, 1);
        x.rather(2, 1);
        // ra over rb: (3,1) (4,0); rc over rb: (0,4) (1,3); ra over rc: (2,2) (3,1) (4,0).
        Check.due("ra over rc, rc over rb", x.quarrel(), 1 + 4);
        x.rather(3, 0);
        Check.due("one alone: rd over ra, by which it is beaten", x.quarrel(), 8);
        UnbeatenHouse y = Check.of("wish p less;wish q less;row ra 1 1;row rb 2 2;row rc 0 9;");
        y.rather(0, 1);
        y.rather(1, 0);
        Check.due("by itself", y.quarrel(), 2);
        y.change(1, 0, NONE);
        Check.due("aside now", y.quarrel(), 0);
    }

    private static void likeQuarrels() {
        // Grid 1: (0,1) and (1,0) alone. ra 0 2, rb 1 1, rc 2 0: ra over rc says (1,0), rc over ra says (0,1).
        UnbeatenHouse x = Check.of("wish p less;wish q less;row ra 0 2;row rb 1 1;row rc 2 0;");
        x.grid(1);
        x.rather(0, 1);
        x.rather(0, 2);
        x.rather(1, 0);
        x.rather(2, 0);
        Check.due("0 and 2 ahead of 0 and 3, 1 and 2", x.quarrel(), 1 + 4);
        for (int i = 0; i < 8; i++) {
            x.rather(2, 1);
        }
        Check.due("twelve", x.has(6), 12);
        Check.due("still", x.quarrel(), 1 + 4);
        // Three that quarrel only together: each two share a weighing.
        UnbeatenHouse y = Check.of("wish p less;wish q less;wish r less;row ra 0 1 1;row rb 1 0 1;row rc 1 1 0;row rd 0 0 9;"
                + "row re 9 0 0;row rf 0 9 0;");
        y.grid(1);
        y.rather(1, 0);
        y.rather(2, 1);
        y.rather(0, 2);
        // Grid 1 weighs one wish alone: (1,0,0): ra best, and like rb rc.
        Check.due("three together", y.quarrel(), 0b111);
    }

    /** What agrees with three agrees with each two of them. */
    private static void noQuarrel() {
        UnbeatenHouse x = Check.of("wish p less;wish q less;row ra 0 2;row rb 1 1;row rc 2 0;");
        x.grid(1);
        x.rather(0, 1);
        x.rather(0, 2);
        x.rather(1, 2);
        Check.due("all three by (1,0), none by (0,1)", x.agree(), 1);
        Check.due("no quarrel", x.quarrel(), 0);
    }

    /** What an earlier call has found must not count in the next one. */
    private static void again() {
        UnbeatenHouse x = Check.of("wish p less;wish q less;row ra 0 2;row rb 1 1;row rc 2 0;");
        x.grid(1);
        // By (0,1) rc 0, rb 1, ra 2: rb is but one behind, and not first.
        Check.due("could", x.could(), 1 + 4);
        Check.due("leaves", x.question(2), 1);
        Check.due("A", x.question(0), 0);
        Check.due("B", x.question(1), 1);
        x.rather(0, 1);
        Check.due("then could", x.could(), 1);
        Check.due("then leaves", x.question(2), 1);
        x.rather(1, 0);
        Check.due("at odds", x.quarrel(), 3);
        Check.due("nothing could", x.could(), 0);
        Check.due("nothing is left", x.question(2), 0);
        x.unsay();
        Check.due("at odds no more", x.quarrel(), 0);
        Check.due("leaves again", x.question(2), 1);
        x.unsay();
        x.rather(1, 0);
        Check.due("the first one is another one", x.quarrel(), 0);
        Check.due("the last weighing alone", x.could(), 4);
        x.unsay();
        x.rather(0, 1);
        x.rather(0, 1);
        Check.due("two that go together", x.quarrel(), 0);
        x.unsay();
        x.rather(1, 0);
        Check.due("two that don't", x.quarrel(), 3);
        x.unsay();
        x.unsay();
        x.rather(1, 0);
        UnbeatenHouse y = Check.of("wish p less;wish q less;row ry 9 9;row rz 9 9;row ra 0 2;row rb 1 1;row rc 2 0;");
        y.grid(1);
        Check.due("all are asked", y.question(2), 1);
        y.rather(2, 4);
        y.rather(4, 2);
        Check.due("of none", y.question(2), 0);
        // By (0,1) the rows are one apart: a slack of 1 is not first.
        Check.due("stop(0)", x.stop(0), 2);
        Check.due("stop(1)", x.stop(1), 1);
        Check.due("stop(2)", x.stop(2), 0);
    }

    private static void stops() {
        UnbeatenHouse x = Check.of(THREE);
        // Worst behind the least one: ra 48, rb 20 (by (0,4) and (4,0)), rc 48; D times 4.
        Check.due("stop(4)", x.stop(4), NONE);
        Check.due("stop(5)", x.stop(5), 1);
        Check.due("stop(11)", x.stop(11), 1);
        Check.due("stop(12)", x.stop(12), 0);
        Check.due("stop(9999)", x.stop(9999), 0);
        Check.due("stop(-1)", x.stop(-1), NONE);
        Check.due("stop(10000)", x.stop(10000), NONE);
        x.rather(2, 1);
        // (0,4) (1,3): rc is first by both.
        Check.due("rc by all that agree", x.stop(0), 2);
        x.rather(0, 2);
        Check.due("none agrees", x.stop(9999), NONE);
        UnbeatenHouse y = Check.of("wish p less;row ra ?;");
        Check.due("no row", y.stop(5), NONE);
        UnbeatenHouse z = Check.of("wish p less;row ra 3;row rb 1;");
        Check.due("the beaten one is not on the front", z.stop(9999), 1);
    }
}
