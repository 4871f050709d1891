import java.util.List;

/**
 * Promise 5's "the first along the text", from what it must be rather than from a second reading:
 * what stands ahead of a FAULT has none but that it ends there, what stands behind it changes
 * nothing, and no text is sound, or goes on, behind a blank that is missing. Held over all short
 * texts made of some pieces, and each against the Oracle.
 */
public final class FirstFaultTest {
    private static final int MOST_CALLS = 512;
    private static final int NONE = UnbeatenHouse.NONE;

    private static UnbeatenHouse x = new UnbeatenHouse();
    private static int calls = 0;

    private FirstFaultTest() {
    }

    public static void main(String[] args) {
        all(List.of("a", "abcdefg", "1", "12345", " ", ";", "knot", "rule", "=", "["), 5, "");
        all(List.of("wish a less;", "wish a", "row b", " 1", "~", "?", ";", "less", "12345", "abcdefg", "knot c;"), 4, "");
        all(List.of("1", "1234", "12345", "and", "or", "abcdefg", "=", " ", "all", "not"), 4, "rule 1");
        all(List.of("a", "b", "c", " ", "1", "12345", "abcdefg", ";"), 5, "wish a less;knot b;knot c;tie b");
        Check.finish("FirstFaultTest");
    }

    private static void all(List<String> pieces, int many, String text) {
        Oracle y = new Oracle();
        y.text(text);
        Check.due("fault of «" + text + "»", tell(text, 0), y.fault(0));
        Check.due("place in «" + text + "»", tell(text, 1), y.fault(1));
        holds(text);
        for (int i = 0; i < pieces.size() && many > 0; i++) {
            all(pieces, many - 1, text + pieces.get(i));
        }
    }

    /** Its FAULT (0), or the place (1). */
    private static int tell(String text, int what) {
        int due = text.length() / 20 + 4;
        if (calls + due > MOST_CALLS) {
            x = new UnbeatenHouse();
            calls = 0;
        }
        calls += due;
        Check.text(x, text);
        return x.fault(what);
    }

    /** What holds of any text; for other tests, too. */
    static void holds(String text) {
        int fault = tell(text, 0);
        int at = tell(text, 1);
        int missing = missingBlank(text);
        Check.due("no fault, no place: «" + text + "»", at == NONE, fault == 0);
        if (missing != NONE) {
            Check.due("none behind the missing blank: «" + text + "»", at != NONE && at <= missing, true);
        }
        if (fault == 0) {
            return;
        }
        Check.due("a place of it: «" + text + "»", at >= 0 && at <= text.length(), true);
        String ahead = text.substring(0, at);
        int early = tell(ahead, 1);
        int run = startOfRun(text, at);
        boolean tooLong = at < text.length() && run < at;
        Check.due("nothing ahead of " + at + " in «" + text + "»",
                early == NONE || early == at || tooLong && early == run, true);
        String whole = text.substring(0, endOfToken(text, at, tooLong));
        Check.due("the same fault with nothing behind: «" + whole + "»", tell(whole, 0), fault);
        Check.due("the same place with nothing behind: «" + whole + "»", tell(whole, 1), at);
    }

    private static int kind(String text, int at) {
        char sign = at >= 0 && at < text.length() ? text.charAt(at) : ';';
        if (sign >= 'a' && sign <= 'z') {
            return 1;
        }
        return sign >= '0' && sign <= '9' ? 2 : 0;
    }

    /** The first digit right behind a letter, or letter right behind a digit. */
    private static int missingBlank(String text) {
        for (int i = 1; i < text.length(); i++) {
            if (kind(text, i - 1) + kind(text, i) == 3) {
                return i;
            }
        }
        return NONE;
    }

    private static int startOfRun(String text, int at) {
        int start = at;
        while (kind(text, at) != 0 && kind(text, start - 1) == kind(text, at)) {
            start--;
        }
        return start;
    }

    private static int endOfToken(String text, int at, boolean tooLong) {
        int end = Math.min(text.length(), at + 1);
        while (!tooLong && kind(text, at) != 0 && kind(text, end) == kind(text, at)) {
            end++;
        }
        return end;
    }
}
