/** Texts that more than one test needs. */
final class Texts {
    private Texts() {
    }

    /**
     * A statement so many times: each time another two letters stand for the @, of which the first is the one told
     * or, behind 26, the next one, and the number of times ahead stands for the #.
     */
    static String each(String statement, int many, char first) {
        StringBuilder t = new StringBuilder();
        for (int i = 0; i < many; i++) {
            String letters = "" + (char) (first + i / 26) + (char) ('a' + i % 26);
            t.append(statement.replace("@", letters).replace("#", "" + i));
        }
        return t.toString();
    }

    /** Rows of which none beats another one: each has one more of both wishes than the one ahead. */
    static String stair(int rows) {
        return "wish p less;wish q more;" + each("row r@ # #;", rows, 'a');
    }

    /** Likewise, but each has ten more. */
    static String steepStair(int rows) {
        return "wish p less;wish q more;" + each("row r@ #0 #0;", rows, 'a');
    }

    /** Rows that have all the same. */
    static String like(int rows) {
        return "wish p less;wish q less;" + each("row r@ 5 5;", rows, 'a');
    }

    /** Knots ka, kb and so on. */
    static String knots(int many) {
        StringBuilder t = new StringBuilder();
        for (int i = 0; i < many; i++) {
            t.append("knot k").append((char) ('a' + i)).append(';');
        }
        return t.toString();
    }

    /** Things ta, tb and so on, of which each set has as much of both wishes as its number is. */
    static String powers(int things, String behind) {
        StringBuilder t = new StringBuilder("wish p less;wish q more;");
        for (int i = 0; i < things; i++) {
            t.append("thing t").append((char) ('a' + i)).append(' ').append(1 << i).append(' ').append(1 << i).append(';');
        }
        return t + behind;
    }
}
