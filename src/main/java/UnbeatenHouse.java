/**
 * Rows, ways through a net and sets of things, judged by up to four wishes at once.
 * The words in capitals are those of ../shared/DOC.md, and so are the numbers of the promises.
 */
public final class UnbeatenHouse {
    public static final int NONE = -1;

    private static final int NO_LOSS = -2000000000;
    private static final int TOO_MANY = -2;
    private static final int NOT_KNOWN = -3;
    /** More than any WORTH and than any difference of LOSSES. */
    private static final int FAR = 2000000000;

    private static final int MOST_BYTES = 900;
    private static final int MOST_WISHES = 4;
    private static final int MOST_ROWS = 40;
    private static final int MOST_KNOTS = 10;
    private static final int MOST_TIES = 24;
    private static final int MOST_RULES = 12;
    private static final int MOST_AMOUNT = 9999;
    private static final int MOST_OPEN = 8;
    private static final int MOST_ON_FRONT = 100;
    private static final int MOST_LETTERS = 6;
    private static final int MOST_DIGITS = 4;
    private static final int MOST_SAYINGS = 12;
    private static final int MOST_PEOPLE = 6;
    private static final int MOST_GRID = 12;
    private static final int FIRST_GRID = 4;
    /** C(15, 3): four weights with the sum 12. */
    private static final int MOST_WEIGHINGS = 455;
    /**
     * A way leaves a knot once, so a knot with d ties behind it multiplies the ways by d and uses
     * up d of the 24 ties: 3 to the 8 ways at most (and 4096 sets are fewer).
     */
    private static final int MOST_IN_POOL = 6561;

    // The kinds of STATEMENTS, numbered as has() numbers them; their words come first in OWN.
    private static final int WISH = 0;
    private static final int ROW = 1;
    private static final int KNOT = 2;
    private static final int TIE = 3;
    private static final int THING = 4;
    private static final int RULE = 5;
    private static final int KINDS = 6;
    private static final int[] MOST = {4, 40, 10, 24, 12, 12};

    // The OWN WORDS, six places each, in the order of the numbers below.
    private static final String OWN =
            "wish  row   knot  tie   thing rule  less  more  or    and   not   all   has   many  of    min   max   ";
    private static final int OWN_WORDS = 17;
    private static final int LESS = 6;
    private static final int MORE = 7;
    private static final int OR = 8;
    private static final int AND = 9;
    private static final int NOT = 10;
    private static final int ALL = 11;
    private static final int HAS = 12;
    private static final int MANY = 13;
    private static final int OF = 14;
    private static final int MIN = 15;
    private static final int MAX = 16;
    // More steps of a TEST, beside those that bear the number of an OWN WORD.
    private static final int NUMBER_STEP = 17;

    private int taped;
    private Tale tale = new Tale();
    private final Reader reader = new Reader();
    private final Rows table = new Rows();
    private final Pool pool = new Pool();
    private final Gatherer gatherer = new Gatherer();
    private final Front hand = new Front();
    private final Front made = new Front();
    /** The FRONT of SETS hangs on the text alone, so it is found once a text. */
    private final Front setFront = new Front();
    private int setsOnFront = NOT_KNOWN;
    private final Picker picker = new Picker();
    private final Weighings weighings = new Weighings();
    private final Sayings sayings = new Sayings();
    private final People people = new People();
    private long fell;
    private long came;

    public UnbeatenHouse() {
    }

    // ---- the text

    public int feed(int a, int b, int c, int d, int e) {
        if (taped > MOST_BYTES - 20) {
            return NONE;
        }
        putBytes(a);
        putBytes(b);
        putBytes(c);
        putBytes(d);
        putBytes(e);
        return taped;
    }

    private void putBytes(int number) {
        for (int shift = 24; shift >= 0; shift -= 8) {
            reader.tape[taped] = (number >>> shift) & 255;
            taped++;
        }
    }

    public boolean end(int n) {
        if (n < 0 || n > taped) {
            return false;
        }
        taped = n;
        return true;
    }

    public int text() {
        int length = taped;
        taped = 0;
        if (!reader.read(length)) {
            return NONE;
        }
        tale = reader.swap(tale);
        table.take(tale);
        hand.drop();
        setsOnFront = NOT_KNOWN;
        picker.forget();
        fell = 0;
        came = 0;
        sayings.forget();
        people.forget();
        weighings.make(weighings.sum, tale.counts[WISH]);
        return tale.statements;
    }

    public int fault(int what) {
        if (what == 0) {
            return reader.wrong;
        }
        return what == 1 ? reader.wrongAt : NONE;
    }

    public int has(int what) {
        if (what >= 0 && what < KINDS) {
            return tale.counts[what];
        }
        if (what == 6) {
            return sayings.count;
        }
        return what == 7 ? weighings.sum : NONE;
    }

    public int letter(int kind, int which, int k) {
        if (kind < 0 || kind > 3) {
            return NONE;
        }
        int own = kind == 3 ? THING : kind;
        return tale.isThere(own, which) ? letterOf(tale.names[own * MOST_ROWS + which], k) : NONE;
    }

    /** A NAME is held as a number, five bits a letter, the last letter lowest. */
    private static int letterOf(int name, int k) {
        int letters = 0;
        for (int rest = name; rest > 0; rest >>= 5) {
            letters++;
        }
        if (k < 0 || k >= letters) {
            return NONE;
        }
        return 96 + ((name >> (5 * (letters - 1 - k))) & 31);
    }

    // ---- rows

    public int price(int row, int wish, boolean spread) {
        if (!tale.isThere(ROW, row) || !tale.isThere(WISH, wish)) {
            return NONE;
        }
        int amount = tale.amounts[Tale.slot(ROW, row, wish)];
        return spread && amount != NONE ? tale.spreads[row * MOST_WISHES + wish] : amount;
    }

    public int beats(int a, int b) {
        if (!tale.isThere(ROW, a) || !tale.isThere(ROW, b)) {
            return NONE;
        }
        return table.isBetter(a, b) ? 1 : 0;
    }

    public int leads(int row) {
        if (!tale.isThere(ROW, row)) {
            return NONE;
        }
        for (int better = 0; better < tale.counts[ROW]; better++) {
            if (isIn(table.best, better) && table.isBetter(better, row)) {
                return better;
            }
        }
        return NONE;
    }

    public int change(int row, int wish, int n) {
        if (!tale.isThere(ROW, row) || !tale.isThere(WISH, wish) || n < NONE || n > MOST_AMOUNT) {
            return NONE;
        }
        long before = table.best;
        tale.amounts[Tale.slot(ROW, row, wish)] = n;
        if (n == NONE) {
            tale.spreads[row * MOST_WISHES + wish] = 0;
        }
        table.take(tale);
        fell = before & ~table.best;
        came = table.best & ~before;
        return Long.bitCount(fell) + Long.bitCount(came);
    }

    public long changed(boolean came) {
        return came ? this.came : fell;
    }

    public long rows() {
        return table.best;
    }

    public long unsure(boolean sure) {
        return sure ? table.unbeaten(table.low, table.high) : table.unbeaten(table.high, table.low);
    }

    public int maybe(int a, int b) {
        if (!table.isJudged(a) || !table.isJudged(b) || a == b) {
            return NONE;
        }
        if (table.outdoes(a, table.high, b, table.low)) {
            return 2;
        }
        return table.outdoes(a, table.low, b, table.high) ? 1 : 0;
    }

    // ---- fronts

    public int front(int what, int from, int to) {
        if (what < Front.OF_ROWS || what > Front.OF_SETS || tale.counts[WISH] == 0) {
            return NONE;
        }
        if (what == Front.OF_ROWS) {
            table.putFront(hand);
            return hand.count;
        }
        if (what == Front.OF_WAYS) {
            return takeWays(from, to);
        }
        return takeSets();
    }

    private int takeWays(int from, int to) {
        if (!tale.isThere(KNOT, from) || !tale.isThere(KNOT, to) || from == to) {
            return NONE;
        }
        gatherer.gatherWays(tale, from, to, pool);
        int many = pool.putFront(made, Front.OF_WAYS);
        if (many != TOO_MANY) {
            hand.copy(made);
        }
        return many;
    }

    private int takeSets() {
        if (setsOnFront == NOT_KNOWN) {
            gatherer.gatherSets(tale, pool);
            setsOnFront = pool.putFront(setFront, Front.OF_SETS);
        }
        if (setsOnFront != TOO_MANY) {
            hand.copy(setFront);
        }
        return setsOnFront;
    }

    public int loss(int k, int wish) {
        return hand.isThere(k) && tale.isThere(WISH, wish)
                ? hand.losses[k * MOST_WISHES + wish] : NO_LOSS;
    }

    public int who(int k) {
        if (!hand.isThere(k)) {
            return NONE;
        }
        return hand.kind == Front.OF_WAYS ? Front.knotsOf(hand.keys[k]) : (int) hand.keys[k];
    }

    public int knot(int k, int i) {
        if (!hand.isThere(k) || hand.kind != Front.OF_WAYS) {
            return NONE;
        }
        return i >= 0 && i < Front.knotsOf(hand.keys[k]) ? Front.knotOf(hand.keys[k], i) : NONE;
    }

    public boolean grid(int g) {
        if (g < 1 || g > MOST_GRID) {
            return false;
        }
        weighings.make(g, tale.counts[WISH]);
        return true;
    }

    public int corner(int k) {
        if (!hand.isThere(k)) {
            return NONE;
        }
        int many = 0;
        for (int n = 0; n < weighings.count; n++) {
            if (weighings.isFirst(n, hand, k)) {
                many++;
            }
        }
        return many;
    }

    public int weight(int k, int i) {
        if (!hand.isThere(k) || !tale.isThere(WISH, i)) {
            return NONE;
        }
        for (int n = 0; n < weighings.count; n++) {
            if (weighings.isFirst(n, hand, k)) {
                return weighings.weights[n * MOST_WISHES + i];
            }
        }
        return NONE;
    }

    public int near(int d) {
        if (d < 0 || d > MOST_AMOUNT || !hand.isAtHand() || hand.count > Picker.MOST_NEAR) {
            return NONE;
        }
        return picker.pickFewest(hand, tale.counts[WISH], d);
    }

    public int standIns(int k) {
        if (k < 1 || k > Picker.MOST_STAND_INS || !hand.isAtHand() || k > hand.count
                || hand.count > Picker.MOST_STOOD_FOR) {
            return NONE;
        }
        return picker.pickClosest(hand, tale.counts[WISH], k);
    }

    public int kept(int i) {
        return i >= 0 && i < picker.keptCount ? picker.chosen[i] : NONE;
    }

    public int cost(int k, int i, int j, boolean above) {
        if (!hand.isThere(k) || !tale.isThere(WISH, i) || !tale.isThere(WISH, j) || i == j) {
            return NONE;
        }
        long top = 0;
        long bottom = 0;
        for (int other = 0; other < hand.count; other++) {
            long less = hand.difference(k, other, i);
            long more = hand.difference(other, k, j);
            if (less > 0 && more > 0 && (bottom == 0 || more * bottom < top * less)) {
                top = more;
                bottom = less;
            }
        }
        if (bottom == 0) {
            return NONE;
        }
        long shared = commonDivisor(top, bottom);
        return (int) ((above ? top : bottom) / shared);
    }

    /** At least 1, whatever comes, for it is divided by. */
    private static long commonDivisor(long a, long b) {
        long greater = a;
        long lesser = b;
        for (int turn = 0; turn < 200 && lesser > 0; turn++) {
            long rest = greater % lesser;
            greater = lesser;
            lesser = rest;
        }
        return Math.max(1, greater);
    }

    public int hole(int wish) {
        if (!hand.isAtHand() || !tale.isThere(WISH, wish)) {
            return NONE;
        }
        int widest = 0;
        for (int k = 0; k < hand.count; k++) {
            widest = Math.max(widest, hand.stepAbove(k, wish));
        }
        return widest;
    }

    // ---- sayings

    public int rather(int a, int b) {
        if (!table.isJudged(a) || !table.isJudged(b) || a == b || sayings.count >= MOST_SAYINGS) {
            return NONE;
        }
        return sayings.add(a, b);
    }

    public int unsay() {
        if (sayings.count == 0) {
            return NONE;
        }
        sayings.count--;
        return sayings.count;
    }

    public int agree() {
        if (tale.counts[WISH] == 0) {
            return NONE;
        }
        int many = 0;
        for (int n = 0; n < weighings.count; n++) {
            if (sayings.isAgreed(n, weighings, table)) {
                many++;
            }
        }
        return many;
    }

    public long could() {
        long first = 0;
        for (int n = 0; n < weighings.count; n++) {
            if (sayings.isAgreed(n, weighings, table)) {
                first |= table.firstBy(n, weighings, 0);
            }
        }
        return first;
    }

    public int question(int what) {
        if (what < 0 || what > 2 || !sayings.ask(weighings, table)) {
            return NONE;
        }
        if (what == 2) {
            return sayings.askedLeaves;
        }
        return what == 0 ? sayings.askedFirst : sayings.askedSecond;
    }

    public int quarrel() {
        return sayings.fewestAtOdds(weighings, table);
    }

    public int stop(int d) {
        if (d < 0 || d > MOST_AMOUNT) {
            return NONE;
        }
        boolean agreed = false;
        long left = table.best;
        for (int n = 0; n < weighings.count; n++) {
            if (sayings.isAgreed(n, weighings, table)) {
                agreed = true;
                left &= table.firstBy(n, weighings, d * weighings.sum);
            }
        }
        return agreed && left != 0 ? Long.numberOfTrailingZeros(left) : NONE;
    }

    // ---- people

    public boolean person(int person, int a, int b, int c, int d) {
        int wishes = tale.counts[WISH];
        if (!People.isOne(person) || !isWeight(a, 0, wishes) || !isWeight(b, 1, wishes)
                || !isWeight(c, 2, wishes) || !isWeight(d, 3, wishes)) {
            return false;
        }
        int at = person * MOST_WISHES;
        people.weights[at] = a;
        people.weights[at + 1] = b;
        people.weights[at + 2] = c;
        people.weights[at + 3] = d;
        people.votes[person] = (a | b | c | d) != 0;
        return true;
    }

    private static boolean isWeight(int weight, int wish, int wishes) {
        return weight >= 0 && weight <= (wish < wishes ? 9 : 0);
    }

    public boolean bar(int person, int row, boolean on) {
        if (!People.isOne(person) || !tale.isThere(ROW, row)) {
            return false;
        }
        long bit = 1L << row;
        people.bars[person] = on ? people.bars[person] | bit : people.bars[person] & ~bit;
        return true;
    }

    public int choose(int rule) {
        return people.gather(table) ? people.pick(rule, people.candidates) : NONE;
    }

    public int breaks(int rule) {
        return people.gather(table) ? people.broken(rule) : NONE;
    }

    public int place(int person, int row) {
        if (!People.isOne(person) || !people.gather(table) || !people.votes[person]
                || !tale.isThere(ROW, row) || !isIn(people.candidates, row)) {
            return NONE;
        }
        return people.rank(person, row, people.candidates);
    }

    private static boolean isIn(long bits, int number) {
        return ((bits >>> number) & 1) != 0;
    }

    private static boolean isNowhereMore(int[] mine, int at, int[] theirs, int theirsAt, int wishes) {
        for (int wish = 0; wish < wishes; wish++) {
            if (mine[at + wish] > theirs[theirsAt + wish]) {
                return false;
            }
        }
        return true;
    }

    /** What a text says. */
    private static final class Tale {
        private int statements;
        private final int[] counts = new int[KINDS];
        private final int[] names = new int[KINDS * MOST_ROWS];
        private final boolean[] more = new boolean[MOST_WISHES];
        /** Of ROWS, TIES and THINGS; NONE is a ?. */
        private final int[] amounts = new int[KINDS * MOST_ROWS * MOST_WISHES];
        private final int[] spreads = new int[MOST_ROWS * MOST_WISHES];
        private final int[] tieFrom = new int[MOST_TIES];
        private final int[] tieTo = new int[MOST_TIES];
        /** The TESTS of all rules one behind the other, each step behind what it works on. */
        private final int[] steps = new int[MOST_BYTES];
        private int stepCount;
        private final int[] ruleEnds = new int[MOST_RULES];

        static int slot(int kind, int which, int wish) {
            return (kind * MOST_ROWS + which) * MOST_WISHES + wish;
        }

        void clear() {
            statements = 0;
            stepCount = 0;
            for (int kind = 0; kind < KINDS; kind++) {
                counts[kind] = 0;
            }
        }

        boolean isThere(int kind, int which) {
            return which >= 0 && which < counts[kind];
        }

        int find(int kind, int name) {
            // TIES and rules have no NAMES.
            if (kind == TIE || kind == RULE) {
                return NONE;
            }
            for (int which = 0; which < counts[kind]; which++) {
                if (names[kind * MOST_ROWS + which] == name) {
                    return which;
                }
            }
            return NONE;
        }

        boolean isGiven(int name) {
            for (int kind = 0; kind < KINDS; kind++) {
                if (find(kind, name) != NONE) {
                    return true;
                }
            }
            return false;
        }

        void give(int kind, int name) {
            names[kind * MOST_ROWS + counts[kind]] = name;
            counts[kind]++;
        }

        void addStep(int step, int number) {
            if (stepCount < MOST_BYTES) {
                steps[stepCount] = step * 16384 + Math.max(0, number);
                stepCount++;
            }
        }

        void endRule() {
            if (counts[RULE] < MOST_RULES) {
                ruleEnds[counts[RULE]] = stepCount;
                counts[RULE]++;
            }
        }

        int lossFor(int wish, int amount) {
            return more[wish] ? -amount : amount;
        }
    }

    /**
     * Reads a text from the left on. The first FAULT makes the token one that nothing asks for, so
     * that what is still open runs out without reading on.
     */
    private static final class Reader {
        private static final int ENDED = 0;
        private static final int SIGN = 1;
        private static final int NUMBER = 2;
        private static final int WORD = 3;
        private static final int BAD = 4;

        private final int[] ownCodes = new int[OWN_WORDS];
        private final int[] tape = new int[MOST_BYTES];
        private int length;
        /** A spare one, so that a text with a FAULT changes nothing. */
        private Tale into = new Tale();
        private int at;
        private int token;
        private int value;
        private int own;
        private int tokenAt;
        private int open;
        private int wrong;
        private int wrongAt = NONE;

        Reader() {
            for (int n = 0; n < OWN_WORDS; n++) {
                for (int k = 0; k < MOST_LETTERS && OWN.charAt(n * MOST_LETTERS + k) != ' '; k++) {
                    ownCodes[n] = ownCodes[n] * 32 + OWN.charAt(n * MOST_LETTERS + k) - 96;
                }
            }
        }

        /** Gives what was read, and takes another one to read the next text into. */
        Tale swap(Tale old) {
            Tale told = into;
            into = old;
            return told;
        }

        boolean read(int many) {
            length = many;
            into.clear();
            at = 0;
            token = ENDED;
            open = 0;
            wrong = 0;
            wrongAt = NONE;
            advance();
            for (int turn = 0; turn < MOST_BYTES && token != ENDED && wrong == 0; turn++) {
                readStatement();
                take(';');
                into.statements++;
            }
            return wrong == 0;
        }

        private void blame(int fault) {
            if (wrong == 0) {
                wrong = fault;
                wrongAt = tokenAt;
            }
            token = BAD;
            own = NONE;
        }

        private void advance() {
            boolean needsBlank = token == WORD || token == NUMBER;
            int behind = at;
            skipBlanks();
            tokenAt = at;
            own = NONE;
            value = 0;
            if (at >= length) {
                token = ENDED;
                return;
            }
            token = kindOf(tape[at]);
            if (token == SIGN) {
                value = tape[at];
                at++;
                return;
            }
            // Looked at ahead of the length: the first byte is one too many then, however long the rest.
            if (needsBlank && tokenAt == behind) {
                token = BAD;
                return;
            }
            int most = token == WORD ? MOST_LETTERS : MOST_DIGITS;
            int last = Math.min(length, at + most);
            for (int k = at; k < last && kindOf(tape[k]) == token; k++) {
                value = token == WORD ? value * 32 + tape[k] - 96 : value * 10 + tape[k] - '0';
                at = k + 1;
            }
            if (at < length && kindOf(tape[at]) == token) {
                token = BAD;
                tokenAt = at;
            } else if (token == WORD) {
                own = ownNumber(value);
            }
        }

        private void skipBlanks() {
            for (int turn = at; turn < length && (tape[turn] == ' ' || tape[turn] == 10); turn++) {
                at = turn + 1;
            }
        }

        /** Of the token that begins with a sign. */
        private static int kindOf(int sign) {
            if (sign >= 'a' && sign <= 'z') {
                return WORD;
            }
            return sign >= '0' && sign <= '9' ? NUMBER : SIGN;
        }

        private int ownNumber(int code) {
            for (int n = 0; n < OWN_WORDS; n++) {
                if (ownCodes[n] == code) {
                    return n;
                }
            }
            return NONE;
        }

        private boolean isSign(int sign) {
            return token == SIGN && value == sign;
        }

        private void take(int sign) {
            if (isSign(sign)) {
                advance();
            } else {
                blame(1);
            }
        }

        private int takeNumber() {
            int number = value;
            if (token != NUMBER) {
                blame(1);
                return 0;
            }
            advance();
            return number;
        }

        private boolean isName() {
            return token == WORD && own == NONE;
        }

        private void giveName(int kind) {
            if (!isName()) {
                blame(1);
            } else if (into.isGiven(value)) {
                blame(2);
            } else {
                into.give(kind, value);
                advance();
            }
        }

        /** Which one of a kind a NAME is of; NONE with a FAULT, and so if it is of the one refused. */
        private int askName(int kind, int refused) {
            if (!isName()) {
                blame(1);
                return NONE;
            }
            int which = into.find(kind, value);
            if (which == NONE || which == refused) {
                blame(3);
                return NONE;
            }
            advance();
            return which;
        }

        private void readStatement() {
            int kind = own;
            if (kind < WISH || kind > RULE) {
                blame(1);
                return;
            }
            if (into.counts[kind] >= MOST[kind]) {
                blame(5);
                return;
            }
            if (isOutOfTurn(kind)) {
                blame(6);
                return;
            }
            advance();
            switch (kind) {
                case WISH:
                    readWish();
                    break;
                case KNOT:
                    giveName(KNOT);
                    break;
                case TIE:
                    readTie();
                    break;
                case RULE:
                    readTest();
                    into.endRule();
                    break;
                case ROW:
                    readRow();
                    break;
                default:
                    readThing();
                    break;
            }
        }

        private boolean isOutOfTurn(int kind) {
            if (kind == WISH) {
                return into.counts[ROW] + into.counts[TIE] + into.counts[THING] > 0;
            }
            return (kind == ROW || kind == TIE || kind == THING) && into.counts[WISH] == 0;
        }

        private void readWish() {
            int wish = into.counts[WISH];
            giveName(WISH);
            if (own == LESS || own == MORE) {
                into.more[wish] = own == MORE;
                advance();
            } else {
                blame(1);
            }
        }

        private void readTie() {
            int tie = into.counts[TIE];
            into.tieFrom[tie] = askName(KNOT, NONE);
            into.tieTo[tie] = askName(KNOT, into.tieFrom[tie]);
            readAmounts(TIE, tie);
            into.counts[TIE]++;
        }

        private void readThing() {
            int thing = into.counts[THING];
            giveName(THING);
            readAmounts(THING, thing);
        }

        private void readAmounts(int kind, int which) {
            for (int wish = 0; wish < into.counts[WISH]; wish++) {
                into.amounts[Tale.slot(kind, which, wish)] = takeNumber();
            }
        }

        private void readRow() {
            int row = into.counts[ROW];
            giveName(ROW);
            for (int wish = 0; wish < into.counts[WISH]; wish++) {
                int amount = NONE;
                int spread = 0;
                if (isSign('?')) {
                    advance();
                } else {
                    amount = takeNumber();
                    if (isSign('~')) {
                        advance();
                        spread = takeNumber();
                    }
                }
                into.amounts[Tale.slot(ROW, row, wish)] = amount;
                into.spreads[row * MOST_WISHES + wish] = spread;
            }
        }

        private void readTest() {
            readBoth();
            for (int turn = 0; turn < MOST_BYTES && own == OR; turn++) {
                advance();
                readBoth();
                into.addStep(OR, 0);
            }
        }

        private void readBoth() {
            readFact();
            for (int turn = 0; turn < MOST_BYTES && own == AND; turn++) {
                advance();
                readFact();
                into.addStep(AND, 0);
            }
        }

        private void readFact() {
            boolean turned = false;
            for (int turn = 0; turn < MOST_BYTES && own == NOT; turn++) {
                turned = !turned;
                advance();
            }
            if (isSign('[')) {
                if (opensOne('[')) {
                    readTest();
                    take(']');
                    open--;
                }
            } else if (own == ALL) {
                into.addStep(ALL, 0);
                advance();
            } else if (own == HAS) {
                advance();
                into.addStep(HAS, askName(THING, NONE));
            } else {
                readSum();
                int sign = takeComparison();
                readSum();
                into.addStep(sign, 0);
            }
            if (turned) {
                into.addStep(NOT, 0);
            }
        }

        private int takeComparison() {
            int sign = value;
            if (isSign('<') || isSign('>') || isSign('=')) {
                advance();
                return sign;
            }
            blame(1);
            return NONE;
        }

        private void readSum() {
            readProduct();
            for (int turn = 0; turn < MOST_BYTES && (isSign('+') || isSign('-')); turn++) {
                int sign = value;
                advance();
                readProduct();
                into.addStep(sign, 0);
            }
        }

        private void readProduct() {
            readPart();
            for (int turn = 0; turn < MOST_BYTES && (isSign('*') || isSign('/')); turn++) {
                int sign = value;
                advance();
                readPart();
                into.addStep(sign, 0);
            }
        }

        private void readPart() {
            int word = own;
            if (token == NUMBER) {
                into.addStep(NUMBER_STEP, takeNumber());
            } else if (word == MANY) {
                into.addStep(MANY, 0);
                advance();
            } else if (word == OF) {
                advance();
                into.addStep(OF, askName(WISH, NONE));
            } else if (word == MIN || word == MAX) {
                advance();
                readPair(word);
            } else if (opensOne('(')) {
                readSum();
                take(')');
                open--;
            }
        }

        private void readPair(int word) {
            if (opensOne('(')) {
                readSum();
                take(',');
                readSum();
                take(')');
                open--;
                into.addStep(word, 0);
            }
        }

        private boolean opensOne(int sign) {
            if (!isSign(sign)) {
                blame(1);
                return false;
            }
            if (open >= MOST_OPEN) {
                blame(5);
                return false;
            }
            open++;
            advance();
            return true;
        }
    }

    /** The ROWS as they are judged now. */
    private static final class Rows {
        private int count;
        private int wishes;
        private final int[] losses = new int[MOST_ROWS * MOST_WISHES];
        /** The least and the greatest LOSSES that the SPREADS leave. */
        private final int[] low = new int[MOST_ROWS * MOST_WISHES];
        private final int[] high = new int[MOST_ROWS * MOST_WISHES];
        private long aside;
        /** The FRONT of ROWS. */
        private long best;
        private final int[] worths = new int[MOST_ROWS];

        void take(Tale tale) {
            count = tale.counts[ROW];
            wishes = tale.counts[WISH];
            aside = 0;
            for (int row = 0; row < count; row++) {
                for (int wish = 0; wish < wishes; wish++) {
                    takeLoss(tale, row, wish);
                }
            }
            best = unbeaten(losses, losses);
        }

        private void takeLoss(Tale tale, int row, int wish) {
            int amount = tale.amounts[Tale.slot(ROW, row, wish)];
            int at = row * MOST_WISHES + wish;
            if (amount == NONE) {
                aside |= 1L << row;
            }
            losses[at] = tale.lossFor(wish, amount);
            low[at] = losses[at] - tale.spreads[at];
            high[at] = losses[at] + tale.spreads[at];
        }

        boolean isJudged(int row) {
            return row >= 0 && row < count && !isIn(aside, row);
        }

        boolean outdoes(int a, int[] mine, int b, int[] theirs) {
            int at = a * MOST_WISHES;
            int theirsAt = b * MOST_WISHES;
            return isNowhereMore(mine, at, theirs, theirsAt, wishes)
                    && !isNowhereMore(theirs, theirsAt, mine, at, wishes);
        }

        boolean isBetter(int a, int b) {
            return isJudged(a) && isJudged(b) && outdoes(a, losses, b, losses);
        }

        /** Those that no other one outdoes, if that one has the first LOSSES and they the second. */
        long unbeaten(int[] theirs, int[] own) {
            long bits = 0;
            for (int row = 0; row < count; row++) {
                boolean stands = isJudged(row);
                for (int other = 0; other < count && stands; other++) {
                    stands = other == row || !isJudged(other) || !outdoes(other, theirs, row, own);
                }
                if (stands) {
                    bits |= 1L << row;
                }
            }
            return bits;
        }

        void putFront(Front front) {
            front.start(Front.OF_ROWS);
            for (int row = 0; row < count; row++) {
                if (isIn(best, row)) {
                    front.add(losses, row * MOST_WISHES, row);
                }
            }
        }

        /** Those of the FRONT whose WORTH is not more than the least one and so much. */
        long firstBy(int n, Weighings by, int slack) {
            int least = FAR;
            for (int row = 0; row < count; row++) {
                worths[row] = by.weigh(n, losses, row * MOST_WISHES);
                if (isIn(best, row)) {
                    least = Math.min(least, worths[row]);
                }
            }
            long bits = 0;
            for (int row = 0; row < count; row++) {
                if (isIn(best, row) && worths[row] - least <= slack) {
                    bits |= 1L << row;
                }
            }
            return bits;
        }
    }

    /** A FRONT as it was when it was found. */
    private static final class Front {
        private static final int OF_ROWS = 0;
        private static final int OF_WAYS = 1;
        private static final int OF_SETS = 2;

        private int kind = NONE;
        private int count;
        private final int[] losses = new int[MOST_ON_FRONT * MOST_WISHES];
        /** The ROW, the SET, or the WAY as Gatherer writes it. */
        private final long[] keys = new long[MOST_ON_FRONT];

        void drop() {
            start(NONE);
        }

        void start(int newKind) {
            kind = newKind;
            count = 0;
        }

        boolean isAtHand() {
            return kind != NONE;
        }

        boolean isThere(int k) {
            return k >= 0 && k < count;
        }

        void add(int[] from, int at, long key) {
            if (count < MOST_ON_FRONT) {
                System.arraycopy(from, at, losses, count * MOST_WISHES, MOST_WISHES);
                keys[count] = key;
                count++;
            }
        }

        void copy(Front other) {
            start(other.kind);
            for (int k = 0; k < other.count; k++) {
                add(other.losses, k * MOST_WISHES, other.keys[k]);
            }
        }

        boolean standsUnder(int[] others, int at, int wishes) {
            for (int k = 0; k < count; k++) {
                if (isNowhereMore(losses, k * MOST_WISHES, others, at, wishes)) {
                    return true;
                }
            }
            return false;
        }

        int difference(int k, int other, int wish) {
            return losses[k * MOST_WISHES + wish] - losses[other * MOST_WISHES + wish];
        }

        /** From the LOSS of one to the next greater one; 0 if it is the greatest. */
        int stepAbove(int k, int wish) {
            int step = 0;
            for (int other = 0; other < count; other++) {
                int more = difference(other, k, wish);
                if (more > 0 && (step == 0 || more < step)) {
                    step = more;
                }
            }
            return step;
        }

        static int knotsOf(long way) {
            return (int) (way & 15);
        }

        static int knotOf(long way, int i) {
            return (int) (way >> (4 * (MOST_KNOTS - i))) & 15;
        }
    }

    /** All WAYS or SETS that there are, out of which a FRONT is sifted. */
    private static final class Pool {
        private final int[] losses = new int[MOST_IN_POOL * MOST_WISHES];
        private final long[] keys = new long[MOST_IN_POOL];
        private final int[] order = new int[MOST_IN_POOL];
        private int count;
        private int wishes;

        void clear(int newWishes) {
            count = 0;
            wishes = newWishes;
        }

        void add(int[] from, long key) {
            if (count < MOST_IN_POOL) {
                System.arraycopy(from, 0, losses, count * MOST_WISHES, MOST_WISHES);
                keys[count] = key;
                order[count] = count;
                count++;
            }
        }

        /**
         * One that beats another one stands ahead of it in the order of rows, so what is put on the
         * front stays there, and of like rows the first one is met first.
         */
        int putFront(Front front, int kind) {
            sort();
            front.start(kind);
            for (int n = 0; n < count; n++) {
                int at = order[n] * MOST_WISHES;
                if (!front.standsUnder(losses, at, wishes)) {
                    if (front.count >= MOST_ON_FRONT) {
                        return TOO_MANY;
                    }
                    front.add(losses, at, keys[order[n]]);
                }
            }
            return front.count;
        }

        /** A heap sort, for it needs no other row. */
        private void sort() {
            for (int root = count / 2 - 1; root >= 0; root--) {
                sink(root, count);
            }
            for (int last = count - 1; last > 0; last--) {
                swap(0, last);
                sink(0, last);
            }
        }

        private void sink(int root, int size) {
            int at = root;
            for (int turn = 0; turn < 32 && 2 * at + 1 < size; turn++) {
                int child = 2 * at + 1;
                if (child + 1 < size && isAhead(order[child], order[child + 1])) {
                    child++;
                }
                if (!isAhead(order[at], order[child])) {
                    return;
                }
                swap(at, child);
                at = child;
            }
        }

        private void swap(int a, int b) {
            int held = order[a];
            order[a] = order[b];
            order[b] = held;
        }

        private boolean isAhead(int a, int b) {
            for (int wish = 0; wish < wishes; wish++) {
                int mine = losses[a * MOST_WISHES + wish];
                int theirs = losses[b * MOST_WISHES + wish];
                if (mine != theirs) {
                    return mine < theirs;
                }
            }
            return keys[a] < keys[b];
        }
    }

    /** Goes through all WAYS, or all SETS, and puts them into a pool. */
    private static final class Gatherer {
        private final Judge judge = new Judge();
        /** What the WAY has up to each of its KNOTS; of a SET the first four alone. */
        private final int[] sums = new int[MOST_KNOTS * MOST_WISHES];
        private final int[] losses = new int[MOST_WISHES];

        void gatherWays(Tale tale, int from, int to, Pool pool) {
            pool.clear(tale.counts[WISH]);
            for (int wish = 0; wish < MOST_WISHES; wish++) {
                sums[wish] = 0;
            }
            walk(tale, pool, to, from, 0, 1 << from, (long) from << (4 * MOST_KNOTS));
        }

        /**
         * A WAY is written as a number, four bits a KNOT, the first one highest, how many they are
         * lowest: so numbers stand in the order of the rows of KNOTS.
         */
        private void walk(Tale tale, Pool pool, int to, int knot, int ties, int seen, long way) {
            if (knot == to) {
                putLosses(tale, ties * MOST_WISHES);
                pool.add(losses, way | (ties + 1));
                return;
            }
            if (ties + 1 >= MOST_KNOTS) {
                return;
            }
            for (int tie = 0; tie < tale.counts[TIE]; tie++) {
                int next = tale.tieTo[tie];
                if (tale.tieFrom[tie] == knot && ((seen >> next) & 1) == 0) {
                    goAlong(tale, tie, ties);
                    long longer = way | (long) next << (4 * (MOST_KNOTS - 1 - ties));
                    walk(tale, pool, to, next, ties + 1, seen | 1 << next, longer);
                }
            }
        }

        private void goAlong(Tale tale, int tie, int ties) {
            int at = ties * MOST_WISHES;
            for (int wish = 0; wish < tale.counts[WISH]; wish++) {
                sums[at + MOST_WISHES + wish] = sums[at + wish] + tale.amounts[Tale.slot(TIE, tie, wish)];
            }
        }

        private void putLosses(Tale tale, int at) {
            for (int wish = 0; wish < tale.counts[WISH]; wish++) {
                losses[wish] = tale.lossFor(wish, sums[at + wish]);
            }
        }

        void gatherSets(Tale tale, Pool pool) {
            pool.clear(tale.counts[WISH]);
            for (int set = 0; set < 1 << tale.counts[THING]; set++) {
                addUp(tale, set);
                if (judge.allows(tale, set, sums)) {
                    putLosses(tale, 0);
                    pool.add(losses, set);
                }
            }
        }

        private void addUp(Tale tale, int set) {
            for (int wish = 0; wish < tale.counts[WISH]; wish++) {
                sums[wish] = 0;
                for (int thing = 0; thing < tale.counts[THING]; thing++) {
                    if (((set >> thing) & 1) != 0) {
                        sums[wish] += tale.amounts[Tale.slot(THING, thing, wish)];
                    }
                }
            }
        }
    }

    /** Says of a SET whether the TESTS of all rules hold: works off their steps on a stack. */
    private static final class Judge {
        private static final int GREATEST = 1000000000;
        /** Eight open brackets leave 30 on the stack at most. */
        private static final int MOST_ON_STACK = 64;

        private final int[] stack = new int[MOST_ON_STACK];
        private int top;

        boolean allows(Tale tale, int set, int[] sums) {
            int step = 0;
            for (int rule = 0; rule < tale.counts[RULE]; rule++) {
                top = 0;
                for (; step < tale.ruleEnds[rule]; step++) {
                    work(tale.steps[step] >> 14, tale.steps[step] & 16383, set, sums);
                }
                if (pop() == 0) {
                    return false;
                }
            }
            return true;
        }

        private void push(int number) {
            if (top < MOST_ON_STACK) {
                stack[top] = number;
                top++;
            }
        }

        private int pop() {
            if (top == 0) {
                return 0;
            }
            top--;
            return stack[top];
        }

        private void work(int step, int number, int set, int[] sums) {
            switch (step) {
                case NUMBER_STEP:
                    push(number);
                    break;
                case MANY:
                    push(Integer.bitCount(set));
                    break;
                case OF:
                    push(number < MOST_WISHES ? sums[number] : 0);
                    break;
                case ALL:
                    push(1);
                    break;
                case HAS:
                    push((set >> number) & 1);
                    break;
                case NOT:
                    push(1 - pop());
                    break;
                default:
                    int right = pop();
                    int left = pop();
                    push(join(step, left, right));
                    break;
            }
        }

        private static int join(int step, int left, int right) {
            switch (step) {
                case '+':
                    return bounded((long) left + right);
                case '-':
                    return bounded((long) left - right);
                case '*':
                    return bounded((long) left * right);
                case '/':
                    return right == 0 ? 0 : Math.floorDiv(left, right);
                case MIN:
                    return Math.min(left, right);
                case MAX:
                    return Math.max(left, right);
                default:
                    return holds(step, left, right) ? 1 : 0;
            }
        }

        private static boolean holds(int step, int left, int right) {
            switch (step) {
                case '<':
                    return left < right;
                case '>':
                    return left > right;
                case '=':
                    return left == right;
                case AND:
                    return left != 0 && right != 0;
                default:
                    return left != 0 || right != 0;
            }
        }

        private static int bounded(long number) {
            return (int) Math.max(-GREATEST, Math.min(GREATEST, number));
        }
    }

    /** The WEIGHINGS of the GRID. */
    private static final class Weighings {
        private int sum = FIRST_GRID;
        private int wishes;
        private int count;
        private final int[] weights = new int[MOST_WEIGHINGS * MOST_WISHES];

        /** The loops go over four weights; those ahead of the last so many as there are WISHES stay 0. */
        void make(int newSum, int newWishes) {
            sum = newSum;
            wishes = newWishes;
            count = 0;
            int mostA = wishes > 3 ? sum : 0;
            for (int a = 0; a <= mostA; a++) {
                int mostB = wishes > 2 ? sum - a : 0;
                for (int b = 0; b <= mostB; b++) {
                    int mostC = wishes > 1 ? sum - a - b : 0;
                    for (int c = 0; c <= mostC; c++) {
                        add(a, b, c, sum - a - b - c);
                    }
                }
            }
        }

        private void add(int a, int b, int c, int d) {
            if (wishes == 0 || count >= MOST_WEIGHINGS) {
                return;
            }
            int last = count * MOST_WISHES + wishes - 1;
            put(last - 3, a);
            put(last - 2, b);
            put(last - 1, c);
            put(last, d);
            count++;
        }

        private void put(int at, int weight) {
            if (at >= count * MOST_WISHES) {
                weights[at] = weight;
            }
        }

        int weigh(int n, int[] losses, int at) {
            int worth = 0;
            for (int wish = 0; wish < wishes; wish++) {
                worth += weights[n * MOST_WISHES + wish] * losses[at + wish];
            }
            return worth;
        }

        boolean isFirst(int n, Front front, int k) {
            int worth = weigh(n, front.losses, k * MOST_WISHES);
            for (int other = 0; other < front.count; other++) {
                if (weigh(n, front.losses, other * MOST_WISHES) < worth) {
                    return false;
                }
            }
            return true;
        }
    }

    /** What the person has said, and what follows from it. */
    private static final class Sayings {
        private int count;
        private final int[] liked = new int[MOST_SAYINGS];
        private final int[] passed = new int[MOST_SAYINGS];
        /** For each ROW rather than each other one: the ROWS that would be first then by something. */
        private final long[] leaves = new long[MOST_ROWS * MOST_ROWS];
        private final boolean[] held = new boolean[1 << MOST_SAYINGS];
        private int askedFirst;
        private int askedSecond;
        private int askedLeaves;

        void forget() {
            count = 0;
        }

        int add(int a, int b) {
            liked[count] = a;
            passed[count] = b;
            count++;
            return count;
        }

        private boolean isSayingAgreed(int saying, int n, Weighings by, Rows rows) {
            int a = liked[saying];
            int b = passed[saying];
            if (!rows.isJudged(a) || !rows.isJudged(b)) {
                return true;
            }
            return by.weigh(n, rows.losses, a * MOST_WISHES) <= by.weigh(n, rows.losses, b * MOST_WISHES);
        }

        boolean isAgreed(int n, Weighings by, Rows rows) {
            for (int saying = 0; saying < count; saying++) {
                if (!isSayingAgreed(saying, n, by, rows)) {
                    return false;
                }
            }
            return true;
        }

        /** Finds the QUESTION; false if there is none. */
        boolean ask(Weighings by, Rows rows) {
            for (int pair = 0; pair < MOST_ROWS * MOST_ROWS; pair++) {
                leaves[pair] = 0;
            }
            for (int n = 0; n < by.count; n++) {
                if (isAgreed(n, by, rows)) {
                    noteFirst(rows.firstBy(n, by, 0), rows);
                }
            }
            askedLeaves = NONE;
            for (int a = 0; a < rows.count; a++) {
                for (int b = a + 1; b < rows.count; b++) {
                    if (isIn(rows.best, a) && isIn(rows.best, b)) {
                        tryQuestion(a, b);
                    }
                }
            }
            return askedLeaves != NONE;
        }

        /** Takes the WORTHS that Rows.firstBy has left. */
        private void noteFirst(long first, Rows rows) {
            for (int a = 0; a < rows.count; a++) {
                for (int b = 0; b < rows.count; b++) {
                    if (rows.worths[a] <= rows.worths[b]) {
                        leaves[a * MOST_ROWS + b] |= first;
                    }
                }
            }
        }

        private void tryQuestion(int a, int b) {
            int many = Math.max(Long.bitCount(leaves[a * MOST_ROWS + b]),
                    Long.bitCount(leaves[b * MOST_ROWS + a]));
            if (askedLeaves == NONE || many < askedLeaves) {
                askedFirst = a;
                askedSecond = b;
                askedLeaves = many;
            }
        }

        /** A QUARREL as bits; 0 without one. */
        int fewestAtOdds(Weighings by, Rows rows) {
            int sets = 1 << count;
            for (int set = 0; set < sets; set++) {
                held[set] = false;
            }
            for (int n = 0; n < by.count; n++) {
                held[agreedSayings(n, by, rows)] = true;
            }
            spreadToParts(sets);
            int found = 0;
            for (int set = 1; set < sets; set++) {
                if (!held[set] && (found == 0 || isAhead(set, found))) {
                    found = set;
                }
            }
            return found;
        }

        private int agreedSayings(int n, Weighings by, Rows rows) {
            int bits = 0;
            for (int saying = 0; saying < count; saying++) {
                if (isSayingAgreed(saying, n, by, rows)) {
                    bits |= 1 << saying;
                }
            }
            return bits;
        }

        /** What agrees with all of some SAYINGS agrees with all of fewer. */
        private void spreadToParts(int sets) {
            for (int saying = 0; saying < count; saying++) {
                for (int set = 0; set < sets; set++) {
                    if (held[set]) {
                        held[set & ~(1 << saying)] = true;
                    }
                }
            }
        }

        /** Of as many, that one is ahead that has the first SAYING which the other one has not. */
        private static boolean isAhead(int set, int other) {
            int fewer = Integer.bitCount(set) - Integer.bitCount(other);
            int unlike = set ^ other;
            return fewer < 0 || fewer == 0 && (set & unlike & -unlike) != 0;
        }
    }

    /** PEOPLE and how they choose. */
    private static final class People {
        private final int[] weights = new int[MOST_PEOPLE * MOST_WISHES];
        private final boolean[] votes = new boolean[MOST_PEOPLE];
        private final long[] bars = new long[MOST_PEOPLE];
        private final int[] worths = new int[MOST_PEOPLE * MOST_ROWS];
        private int voters;
        private long candidates;

        static boolean isOne(int person) {
            return person >= 0 && person < MOST_PEOPLE;
        }

        void forget() {
            for (int person = 0; person < MOST_PEOPLE; person++) {
                votes[person] = false;
                bars[person] = 0;
            }
        }

        /** Whom the CHOICE goes among, and what each is worth; false if nobody has weights. */
        boolean gather(Rows rows) {
            candidates = rows.best;
            voters = 0;
            for (int person = 0; person < MOST_PEOPLE; person++) {
                candidates &= ~bars[person];
                if (votes[person]) {
                    voters++;
                    weighAll(person, rows);
                }
            }
            return voters > 0;
        }

        private void weighAll(int person, Rows rows) {
            for (int row = 0; row < rows.count; row++) {
                int worth = 0;
                for (int wish = 0; wish < rows.wishes; wish++) {
                    worth += weights[person * MOST_WISHES + wish] * rows.losses[row * MOST_WISHES + wish];
                }
                worths[person * MOST_ROWS + row] = worth;
            }
        }

        private boolean isAhead(int person, int a, int b) {
            int difference = worths[person * MOST_ROWS + a] - worths[person * MOST_ROWS + b];
            return difference < 0 || difference == 0 && a < b;
        }

        int rank(int person, int row, long among) {
            int ahead = 0;
            for (int other = 0; other < MOST_ROWS; other++) {
                if (isIn(among, other) && isAhead(person, other, row)) {
                    ahead++;
                }
            }
            return ahead;
        }

        private boolean isAheadForMost(int a, int b) {
            int many = 0;
            for (int person = 0; person < MOST_PEOPLE; person++) {
                if (votes[person] && isAhead(person, a, b)) {
                    many++;
                }
            }
            return 2 * many > voters;
        }

        int pick(int rule, long among) {
            if (rule == 3) {
                return pickAheadOfAll(among);
            }
            if (rule < 0 || rule > 3) {
                return NONE;
            }
            int picked = NONE;
            int least = 0;
            for (int row = 0; row < MOST_ROWS; row++) {
                if (isIn(among, row)) {
                    int blame = blameOf(rule, row, among);
                    if (picked == NONE || blame < least) {
                        picked = row;
                        least = blame;
                    }
                }
            }
            return picked;
        }

        /** By rules 0 to 2 the ROW is chosen of which this is least. */
        private int blameOf(int rule, int row, long among) {
            int blame = 0;
            for (int person = 0; person < MOST_PEOPLE; person++) {
                if (votes[person]) {
                    int rank = rank(person, row, among);
                    if (rule == 0) {
                        blame -= rank == 0 ? 1 : 0;
                    } else if (rule == 1) {
                        blame += rank;
                    } else {
                        blame = Math.max(blame, rank);
                    }
                }
            }
            return blame;
        }

        private int pickAheadOfAll(long among) {
            for (int row = 0; row < MOST_ROWS; row++) {
                boolean ahead = isIn(among, row);
                for (int other = 0; other < MOST_ROWS && ahead; other++) {
                    ahead = other == row || !isIn(among, other) || isAheadForMost(row, other);
                }
                if (ahead) {
                    return row;
                }
            }
            return NONE;
        }

        int broken(int rule) {
            int chosen = pick(rule, candidates);
            if (chosen == NONE) {
                return NONE;
            }
            int ahead = pickAheadOfAll(candidates);
            int bits = ahead != NONE && ahead != chosen ? 1 : 0;
            if (isBehindAll(chosen)) {
                bits += 2;
            }
            return pick(rule, everFirst()) == chosen ? bits : bits + 4;
        }

        private boolean isBehindAll(int row) {
            for (int other = 0; other < MOST_ROWS; other++) {
                if (other != row && isIn(candidates, other) && !isAheadForMost(other, row)) {
                    return false;
                }
            }
            return candidates != 1L << row;
        }

        private long everFirst() {
            long bits = 0;
            for (int row = 0; row < MOST_ROWS; row++) {
                if (isIn(candidates, row) && blameOf(0, row, candidates) < 0) {
                    bits |= 1L << row;
                }
            }
            return bits;
        }
    }

    /** Few of a FRONT that stand for all of it: tries all choices of so many in the order of rows. */
    private static final class Picker {
        private static final int MOST_NEAR = 16;
        private static final int MOST_STAND_INS = 4;
        private static final int MOST_STOOD_FOR = 24;
        /** C(24, 4) are fewer, and so are C(16, 8). */
        private static final int MOST_CHOICES = 20000;

        private int count;
        /** The least D by which one stands for another one. */
        private final int[] distances = new int[MOST_STOOD_FOR * MOST_STOOD_FOR];
        private final int[] tried = new int[MOST_NEAR];
        private final int[] chosen = new int[MOST_NEAR];
        private int keptCount;

        void forget() {
            keptCount = 0;
        }

        int pickFewest(Front front, int wishes, int d) {
            measure(front, wishes);
            for (int size = 0; size <= count && size <= MOST_NEAR; size++) {
                if (pickOf(size, d + 1, d) <= d) {
                    return size;
                }
            }
            return NONE;
        }

        int pickClosest(Front front, int wishes, int size) {
            measure(front, wishes);
            return pickOf(size, FAR, 0);
        }

        private void measure(Front front, int wishes) {
            count = Math.min(front.count, MOST_STOOD_FOR);
            for (int a = 0; a < count; a++) {
                for (int b = 0; b < count; b++) {
                    int most = 0;
                    for (int wish = 0; wish < wishes; wish++) {
                        most = Math.max(most, front.difference(a, b, wish));
                    }
                    distances[a * MOST_STOOD_FOR + b] = most;
                }
            }
        }

        /**
         * The least D below a bound, for which its first choice is kept; the bound without one. A D
         * that is not more than enough ends the search.
         */
        private int pickOf(int size, int bound, int enough) {
            int least = bound;
            boolean more = true;
            for (int i = 0; i < size; i++) {
                tried[i] = i;
            }
            for (int turn = 0; turn < MOST_CHOICES && more; turn++) {
                int farthest = farthest(size, least);
                if (farthest < least) {
                    least = farthest;
                    keptCount = size;
                    System.arraycopy(tried, 0, chosen, 0, size);
                }
                more = least > enough && moveOn(size);
            }
            return least;
        }

        /** The D that those tried need; as soon as it is not below the bound, that is enough. */
        private int farthest(int size, int bound) {
            int farthest = 0;
            for (int b = 0; b < count && farthest < bound; b++) {
                int closest = FAR;
                for (int i = 0; i < size; i++) {
                    closest = Math.min(closest, distances[tried[i] * MOST_STOOD_FOR + b]);
                }
                farthest = Math.max(farthest, closest);
            }
            return farthest;
        }

        private boolean moveOn(int size) {
            for (int i = size - 1; i >= 0; i--) {
                if (tried[i] < count - size + i) {
                    tried[i]++;
                    for (int j = i + 1; j < size; j++) {
                        tried[j] = tried[j - 1] + 1;
                    }
                    return true;
                }
            }
            return false;
        }
    }
}
