import java.nio.charset.StandardCharsets;

/** What the tests share: counts answers that are not as due, and feeds a text. */
final class Check {
    private static int asked = 0;
    private static int wrong = 0;
    /** The sentence of the document that is being asked about; "" ahead of any. */
    private static String sentence = "";
    private static int askedAhead = 0;

    private Check() {
    }

    /** From here on the answers are about these words of the document; all words told so need one. */
    static void sentence(String where, String words) {
        endSentence();
        sentence = where + " «" + words + "»: ";
        askedAhead = asked;
    }

    private static void endSentence() {
        if (!sentence.isEmpty() && asked == askedAhead) {
            due("answers asked for", 0, 1);
        }
    }

    static void due(String what, long got, long want) {
        asked++;
        if (got != want) {
            wrong++;
            if (wrong <= 40) {
                System.out.println(sentence + what + " answered " + got + ", due is " + want);
            }
        }
    }

    static void due(String what, boolean got, boolean want) {
        due(what, got ? 1 : 0, want ? 1 : 0);
    }

    static int wrongSoFar() {
        return wrong;
    }

    /** Ends the program: exit code 1 if anything was wrong, or if nothing was asked. */
    static void finish(String test) {
        endSentence();
        System.out.println(test + ": " + asked + " answers, " + wrong + " not as due");
        if (wrong != 0 || asked == 0) {
            System.exit(1);
        }
    }

    static int[] fives(byte[] bytes) {
        int[] numbers = new int[(bytes.length + 19) / 20 * 5];
        for (int i = 0; i < numbers.length * 4; i++) {
            int sign = i < bytes.length ? bytes[i] & 255 : ' ';
            numbers[i / 4] = numbers[i / 4] << 8 | sign;
        }
        return numbers;
    }

    static void feed(UnbeatenHouse x, String text) {
        byte[] bytes = text.getBytes(StandardCharsets.ISO_8859_1);
        int[] n = fives(bytes);
        for (int i = 0; i < n.length; i += 5) {
            x.feed(n[i], n[i + 1], n[i + 2], n[i + 3], n[i + 4]);
        }
        x.end(bytes.length);
    }

    static int text(UnbeatenHouse x, String text) {
        feed(x, text);
        return x.text();
    }

    static UnbeatenHouse of(String text) {
        UnbeatenHouse x = new UnbeatenHouse();
        int statements = text(x, text);
        if (statements == UnbeatenHouse.NONE) {
            due("text " + text + " fault " + x.fault(0) + " at " + x.fault(1), 0, 1);
        }
        return x;
    }

    /** A text has this FAULT at this place. */
    static void faulty(String text, int fault, int place) {
        UnbeatenHouse x = new UnbeatenHouse();
        due("text() of «" + text + "»", text(x, text), UnbeatenHouse.NONE);
        due("fault(0) of «" + text + "»", x.fault(0), fault);
        due("fault(1) of «" + text + "»", x.fault(1), place);
    }

    static void sound(String text, int statements) {
        UnbeatenHouse x = new UnbeatenHouse();
        due("text() of «" + text + "»", text(x, text), statements);
        due("fault(0) of «" + text + "»", x.fault(0), 0);
        due("fault(1) of «" + text + "»", x.fault(1), UnbeatenHouse.NONE);
    }
}
