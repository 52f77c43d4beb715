import java.util.Arrays;

/** A room told as a text, in which soap bubbles drift, join, thin and burst over heirs. */
public final class SoapDeeds {
    public static final int NONE = -1;

    // A CELL is 8 times its row and its column, as from() tells it.
    private static final int WIDE = 8;
    private static final int CELLS = 64;
    private static final int EACH = 6;
    private static final int DOOR = 0;
    private static final int HEIR = 1;
    private static final int BUBBLE = 2;
    private static final int SORTS = 3;
    private static final int TAPE_MOST = 1600;
    private static final int LAST_SECOND = 999;
    private static final int RENT_MOST = 999;
    private static final int FILM_MOST = 99;
    private static final int SIZE_MOST = 9;
    private static final int WAYS = 4;
    private static final int OUTSIDE = 255;

    private static final int RUN_MOST = 40;
    private static final int PLAN_MOST = 20;
    private static final int OF_TAPE = 0;
    private static final int OF_ROOM = 1;
    private static final int OF_SECONDS = 2;
    private static final int OF_MOVES = 3;
    private static final int OF_UNDO = 4;
    private static final int OF_READING = 5;

    private final Tape tape = new Tape();
    private final Parser parser = new Parser();
    private final Scene scene = new Scene();
    private final Works works = new Works();
    private final Seer seer = new Seer();
    private final History history = new History();
    private final Images images = new Images();
    private final int[] refusals = new int[6];
    private Plan plan = new Plan();
    // A text is read into the spare plan, so that all stays when it has a FAULT.
    private Plan spare = new Plan();
    private int chain = 1;

    public SoapDeeds() {
        scene.begin(plan);
    }

    public int feed(int a, int b, int c, int d, int e) {
        if (tape.length + 20 > TAPE_MOST) {
            return refusedNumber(OF_TAPE);
        }
        tape.add(a);
        tape.add(b);
        tape.add(c);
        tape.add(d);
        tape.add(e);
        return tape.length;
    }

    public boolean end(int n) {
        if (n < 0 || n > tape.length) {
            return refused(OF_TAPE);
        }
        tape.length = n;
        return true;
    }

    public int room() {
        boolean well = parser.read(tape, spare);
        tape.length = 0;
        if (!well) {
            return refusedNumber(OF_ROOM);
        }
        Plan old = plan;
        plan = spare;
        spare = old;
        scene.begin(plan);
        history.clear();
        seer.forget();
        return plan.statements;
    }

    public int fault(int what) {
        switch (what) {
            case 0:
                return parser.fault;
            case 1:
                return parser.place;
            default:
                return NONE;
        }
    }

    public int has(int what) {
        switch (what) {
            case 0:
                return plan.columns;
            case 1:
                return plan.rows;
            case 2:
                return plan.count[DOOR];
            case 3:
                return plan.count[HEIR];
            case 4:
                return plan.count[BUBBLE];
            case 5:
                return scene.second;
            case 6:
                return scene.floating();
            case 7:
                return ownedDeeds();
            case 8:
                return lostDeeds();
            case 9:
                return scene.keptCount;
            case 10:
                return seer.feltCount;
            case 11:
                return history.count;
            case 12:
                return chain;
            default:
                return NONE;
        }
    }

    public int letter(int kind, int which, int k) {
        if (k < 0 || k >= Tokens.NAME_MOST || !plan.isThere(kind, which)) {
            return NONE;
        }
        return plan.name[EACH * kind + which] >> Tokens.LETTER_BITS * k & Tokens.LETTER_MASK;
    }

    public int lamp(int what) {
        return placePart(scene.lamp, what);
    }

    public int door(int door, int what) {
        if (!plan.isThere(DOOR, door)) {
            return NONE;
        }
        switch (what) {
            case 0:
            case 1:
                return placePart(plan.cell[door], what);
            case 2:
                return plan.way[door];
            case 3:
                return plan.reach[door];
            case 4:
                return scene.open >> door & 1;
            default:
                return NONE;
        }
    }

    public int heir(int heir, int what) {
        if (!plan.isThere(HEIR, heir)) {
            return NONE;
        }
        switch (what) {
            case 0:
            case 1:
                return placePart(scene.heirCell[heir], what);
            case 2:
                return plan.tall[heir];
            case 3:
                return scene.deedsOwnedBy(heir);
            case 4:
                return scene.rentOwnedBy(heir);
            default:
                return NONE;
        }
    }

    public int bubble(int bubble, int what) {
        if (!plan.isThere(BUBBLE, bubble)) {
            return NONE;
        }
        switch (what) {
            case 0:
            case 1:
                return placePart(scene.bubbleCell[bubble], what);
            case 2:
                return scene.film[bubble];
            case 3:
                return scene.size[bubble];
            case 4:
                return scene.deeds[bubble];
            default:
                return NONE;
        }
    }

    public int deed(int deed, int what) {
        if (!plan.isThere(BUBBLE, deed)) {
            return NONE;
        }
        switch (what) {
            case 0:
                return scene.owner[deed];
            case 1:
                return scene.bubbleWith(deed);
            case 2:
                return scene.rent[deed];
            default:
                return NONE;
        }
    }

    public int draught(int column, int row) {
        int cell = plan.cellAt(column, row);
        if (cell == NONE) {
            return NONE;
        }
        works.prepare(plan, scene);
        return works.windIn(cell);
    }

    public int later(int bubble, int n, int what) {
        if (!plan.isThere(BUBBLE, bubble) || !canPass(n, 0, RUN_MOST)) {
            return NONE;
        }
        Scene then = lookAhead().after(n);
        return what == 2 ? then.film[bubble] : placePart(then.bubbleCell[bubble], what);
    }

    public int goes(int bubble) {
        if (!floats(bubble)) {
            return NONE;
        }
        return lookAhead().secondOfGoing(bubble, Math.min(RUN_MOST, secondsLeft()));
    }

    public int owner(int deed, int n) {
        if (!plan.isThere(BUBBLE, deed) || !canPass(n, 0, RUN_MOST)) {
            return NONE;
        }
        return lookAhead().after(n).owner[deed];
    }

    public int doors(int deed, int heir, int n) {
        if (!plan.isThere(BUBBLE, deed) || !plan.isThere(HEIR, heir) || !canPass(n, 0, PLAN_MOST)) {
            return NONE;
        }
        return lookAhead().fewestDoors(deed, heir, n);
    }

    public int stand(int heir, int n, int what) {
        if (!plan.isThere(HEIR, heir) || !canPass(n, 1, PLAN_MOST)) {
            return NONE;
        }
        lookAhead().findStand(heir, n);
        return what == 2 ? seer.bestWorth : placePart(seer.bestCell, what);
    }

    public int shine(int n, int what) {
        if (plan.columns == 0 || !canPass(n, 1, PLAN_MOST)) {
            return NONE;
        }
        lookAhead().findShine(n);
        return what == 2 ? seer.bestWorth : placePart(seer.bestCell, what);
    }

    public int lasts(int bubble, int n) {
        if (!floats(bubble) || !canPass(n, 1, PLAN_MOST)) {
            return NONE;
        }
        return lookAhead().leastFilm(bubble, n);
    }

    public int odds(int deed, int heir) {
        if (!plan.isThere(BUBBLE, deed) || !plan.isThere(HEIR, heir) || !canPass(1, 1, 1)) {
            return NONE;
        }
        return lookAhead().rowsToOwn(deed, heir);
    }

    public int feel() {
        boolean well = seer.takeFelt(tape, plan);
        tape.length = 0;
        return well ? seer.feltCount : refusedNumber(OF_READING);
    }

    public int from(int bubble, int k) {
        if (!floats(bubble)) {
            return NONE;
        }
        int most = lookAhead().findFrom(bubble);
        if (k == NONE) {
            return most;
        }
        return k >= 0 && k < most ? seer.fromCell[k] : NONE;
    }

    public int tells(int bubble, int what) {
        if (!floats(bubble) || what < 0 || what > 1 || !lookAhead().findTelling(bubble)) {
            return NONE;
        }
        return what == 0 ? seer.tellingSecond : seer.tellingLeft;
    }

    public int seconds(int n) {
        return goBy(n, false);
    }

    public int chance(int n) {
        return goBy(n, true);
    }

    public boolean swing(int door, int on) {
        if (!plan.isThere(DOOR, door) || on < 0 || on > 1 || (scene.open >> door & 1) == on) {
            return refused(OF_MOVES);
        }
        history.push(scene);
        scene.open ^= 1 << door;
        return true;
    }

    public boolean tiptoe(int heir, int way) {
        if (!plan.isThere(HEIR, heir)) {
            return refused(OF_MOVES);
        }
        int cell = plan.next(scene.heirCell[heir], way);
        if (cell == NONE || scene.heirIn(cell) != NONE) {
            return refused(OF_MOVES);
        }
        history.push(scene);
        scene.heirCell[heir] = cell;
        return true;
    }

    public boolean carry(int column, int row) {
        int cell = plan.cellAt(column, row);
        if (cell == NONE || cell == scene.lamp) {
            return refused(OF_MOVES);
        }
        history.push(scene);
        scene.lamp = cell;
        return true;
    }

    public boolean undo() {
        return history.pop(scene) || refused(OF_UNDO);
    }

    public boolean seed(int seed) {
        if (seed < 0) {
            return refused(OF_READING);
        }
        chain = seed;
        return true;
    }

    public int kept(int k, int what) {
        if (k < 0 || k >= scene.keptCount || what < 0 || what >= Scene.KEPT_PARTS) {
            return NONE;
        }
        return scene.keptRows[Scene.KEPT_PARTS * k + what];
    }

    public int image() {
        return images.write(plan, scene);
    }

    public int octet(int k) {
        return k >= 0 && k < images.length ? images.bytes[k] : NONE;
    }

    public boolean on() {
        boolean well = plan.columns > 0 && images.read(tape, plan);
        tape.length = 0;
        if (!well) {
            return refused(OF_READING);
        }
        scene.copy(images.told);
        history.clear();
        return true;
    }

    public int status(int what) {
        return what >= 0 && what < refusals.length ? refusals[what] : NONE;
    }

    private boolean refused(int what) {
        if (what >= 0 && what < refusals.length) {
            refusals[what]++;
        }
        return false;
    }

    private int refusedNumber(int what) {
        refused(what);
        return NONE;
    }

    private int placePart(int cell, int what) {
        if (cell == NONE) {
            return NONE;
        }
        switch (what) {
            case 0:
                return cell % WIDE;
            case 1:
                return cell / WIDE;
            default:
                return NONE;
        }
    }

    private int ownedDeeds() {
        int owned = 0;
        for (int deed = 0; deed < plan.count[BUBBLE]; deed++) {
            owned += scene.owner[deed] == NONE ? 0 : 1;
        }
        return owned;
    }

    private int lostDeeds() {
        int floating = 0;
        for (int bubble = 0; bubble < plan.count[BUBBLE]; bubble++) {
            floating += Integer.bitCount(scene.deeds[bubble]);
        }
        return plan.count[BUBBLE] - floating - ownedDeeds();
    }

    private boolean floats(int bubble) {
        return plan.isThere(BUBBLE, bubble) && scene.bubbleCell[bubble] != NONE;
    }

    private int secondsLeft() {
        return LAST_SECOND - scene.second;
    }

    private boolean canPass(int n, int least, int most) {
        return n >= least && n <= most && n <= secondsLeft();
    }

    private Seer lookAhead() {
        seer.look(plan, scene, works);
        return seer;
    }

    /** How many BURST, or how many breaths there were if it goes by the seed. */
    private int goBy(int n, boolean bySeed) {
        if (plan.columns == 0 || !canPass(n, 1, RUN_MOST)) {
            return refusedNumber(OF_SECONDS);
        }
        history.push(scene);
        works.prepare(plan, scene);
        int breaths = 0;
        int burst = 0;
        for (int k = 0; k < n; k++) {
            boolean breathes = bySeed && draw(100) < plan.breath;
            int way = breathes ? draw(WAYS) : NONE;
            breaths += breathes ? 1 : 0;
            burst += works.pass(scene, way);
        }
        return bySeed ? breaths : burst;
    }

    private int draw(int m) {
        chain = (int) (1103515245L * chain + 12345L & 0x7fffffffL);
        return m > 0 ? chain / 64 % m : 0;
    }

    /** The bytes that were fed and not yet read. */
    private static final class Tape {
        private final byte[] bytes = new byte[TAPE_MOST];
        int length = 0;

        void add(int number) {
            for (int shift = 24; shift >= 0; shift -= 8) {
                if (length >= 0 && length < bytes.length) {
                    bytes[length] = (byte) (number >> shift);
                    length++;
                }
            }
        }

        int at(int k) {
            return k >= 0 && k < length && k < bytes.length ? bytes[k] & 255 : NONE;
        }
    }

    /** The text's words, numbers and signs, one at a time. */
    private static final class Tokens {
        static final int END = 0;
        static final int WORD = 1;
        static final int NUMBER = 2;
        static final int SIGN = 3;
        // What may stand nowhere (a 7th letter, a 5th digit, no blank): nothing that is asked for is like it.
        static final int BAD = 4;

        static final int ROOM = 0;
        static final int BY = 1;
        static final int LAMP = 2;
        static final int A_DOOR = 3;
        static final int AT = 4;
        static final int BLOWS = 5;
        static final int REACH = 6;
        static final int OPEN = 7;
        static final int A_HEIR = 8;
        static final int TALL = 9;
        static final int A_BUBBLE = 10;
        static final int FILM = 11;
        static final int SIZE = 12;
        static final int THINS = 13;
        static final int BURSTS = 14;
        static final int HUE = 15;
        static final int BREATH = 16;
        static final int SECOND = 17;
        static final int DRIFT = 18;
        static final int DEEDS = 19;
        static final int IF = 20;
        static final int OR = 21;
        static final int AND = 22;
        static final int NOT = 23;
        static final int ALL = 24;
        static final int MIN = 25;
        static final int MAX = 26;
        private static final int OWN_WORDS = 27;
        // In the order of their numbers above.
        private static final String OWN =
            "room by lamp door at blows reach open heir tall bubble film size thins bursts hue breath second drift deeds if or and not all min max";

        // A word is one number, its first letter in the lowest bits.
        static final int NAME_MOST = 6;
        static final int LETTER_BITS = 5;
        static final int LETTER_MASK = 31;
        private static final int DIGITS_MOST = 4;

        private final int[] ownWord = new int[OWN_WORDS];
        private Tape text = null;
        private int at = 0;
        int kind = END;
        int start = 0;
        // Where FAULT 1 is if this may not stand here: the start, but for a letter or digit too many.
        int place = 0;
        int value = 0;
        int own = NONE;

        Tokens() {
            int word = 0;
            int letters = 0;
            for (int k = 0; k < OWN.length() && word < OWN_WORDS; k++) {
                char c = OWN.charAt(k);
                if (c == ' ') {
                    word++;
                    letters = 0;
                } else {
                    ownWord[word] |= letterBits(c, letters);
                    letters++;
                }
            }
        }

        void open(Tape tape) {
            text = tape;
            at = 0;
            kind = END;
            next();
        }

        void next() {
            boolean needsBlank = kind == WORD || kind == NUMBER;
            int before = at;
            skipBlanks();
            start = at;
            place = at;
            value = 0;
            own = NONE;
            int c = byteAt(at);
            if (c == NONE) {
                kind = END;
            } else if (isLetter(c)) {
                takeWord();
            } else if (isDigit(c)) {
                takeNumber();
            } else {
                kind = SIGN;
                value = c;
                at++;
            }
            if (needsBlank && before == start && kind != SIGN && kind != END) {
                spoil(start);
            }
        }

        boolean isSign(int sign) {
            return kind == SIGN && value == sign;
        }

        private void skipBlanks() {
            for (int k = at; k < TAPE_MOST && (byteAt(k) == 10 || byteAt(k) == 32); k++) {
                at = k + 1;
            }
        }

        private void takeWord() {
            kind = WORD;
            for (int letters = 0; letters < NAME_MOST && isLetter(byteAt(at)); letters++) {
                value |= letterBits(byteAt(at), letters);
                at++;
            }
            if (isLetter(byteAt(at))) {
                spoil(at);
            } else {
                own = numberOfOwn(value);
            }
        }

        private void takeNumber() {
            kind = NUMBER;
            for (int digits = 0; digits < DIGITS_MOST && isDigit(byteAt(at)); digits++) {
                value = 10 * value + byteAt(at) - '0';
                at++;
            }
            if (isDigit(byteAt(at))) {
                spoil(at);
            }
        }

        private void spoil(int where) {
            kind = BAD;
            place = where;
            own = NONE;
        }

        private int numberOfOwn(int word) {
            for (int k = 0; k < OWN_WORDS; k++) {
                if (ownWord[k] == word) {
                    return k;
                }
            }
            return NONE;
        }

        private int byteAt(int k) {
            return text == null ? NONE : text.at(k);
        }

        private static int letterBits(int c, int k) {
            return (c - 'a' + 1) << LETTER_BITS * k;
        }

        private static boolean isLetter(int c) {
            return c >= 'a' && c <= 'z';
        }

        private static boolean isDigit(int c) {
            return c >= '0' && c <= '9';
        }
    }

    /** The SUMS and the TEST of a room, as codes that work on a stack from the left on. */
    private static final class Rules {
        static final int THINS = 0;
        static final int BURSTS = 1;
        static final int HUE = 2;
        private static final int KINDS = 3;

        // A NUMBER of the text is its own code, so all other codes are below 0.
        static final int FILM = -1;
        static final int SIZE = -2;
        static final int SECOND = -3;
        static final int DRIFT = -4;
        static final int TALL = -5;
        static final int DEEDS = -6;
        static final int ADD = -7;
        static final int LESSEN = -8;
        static final int TIMES = -9;
        static final int SHARE = -10;
        static final int REST = -11;
        static final int LEAST = -12;
        static final int MOST = -13;
        static final int BELOW = -14;
        static final int ABOVE = -15;
        static final int SAME = -16;
        static final int BOTH = -17;
        static final int EITHER = -18;
        static final int NOT = -19;
        static final int CHOOSE = -20;

        private static final int QUALITIES = 6;
        private static final long RESULT_MOST = 1000000L;
        // Seven open at once, each with at most five results that wait, need 41.
        private static final int STACK = 64;

        // Each code comes from a byte of the text of its own, so all three have room here.
        private final int[] codes = new int[TAPE_MOST];
        private final int[] first = new int[KINDS];
        private final int[] behind = new int[KINDS];
        private int length = 0;
        private final int[] quality = new int[QUALITIES];
        private final int[] stack = new int[STACK];
        private int top = 0;

        void clear() {
            length = 0;
            Arrays.fill(first, NONE);
            Arrays.fill(behind, NONE);
        }

        boolean isTold(int rule) {
            return rule >= 0 && rule < KINDS && first[rule] >= 0 && behind[rule] > first[rule];
        }

        void begin(int rule) {
            if (rule >= 0 && rule < KINDS) {
                first[rule] = length;
            }
        }

        void finish(int rule) {
            if (rule >= 0 && rule < KINDS) {
                behind[rule] = length;
            }
        }

        void add(int code) {
            if (length < codes.length) {
                codes[length] = code;
                length++;
            }
        }

        void setQuality(int code, int value) {
            int k = FILM - code;
            if (k >= 0 && k < QUALITIES) {
                quality[k] = value;
            }
        }

        int result(int rule) {
            if (!isTold(rule)) {
                return 0;
            }
            top = 0;
            for (int k = first[rule]; k < behind[rule] && k < codes.length; k++) {
                work(codes[k]);
            }
            return pop();
        }

        private void work(int code) {
            if (code >= 0) {
                push(code);
            } else if (code >= DEEDS) {
                push(quality[FILM - code]);
            } else if (code == NOT) {
                push(1 - pop());
            } else if (code == CHOOSE) {
                int second = pop();
                int first = pop();
                push(pop() != 0 ? first : second);
            } else {
                int right = pop();
                int left = pop();
                push(joined(code, left, right));
            }
        }

        private static int joined(int code, int left, int right) {
            switch (code) {
                case ADD:
                    return cut((long) left + right);
                case LESSEN:
                    return cut((long) left - right);
                case TIMES:
                    return cut((long) left * right);
                case SHARE:
                    return right == 0 ? 0 : cut(Math.floorDiv(left, right));
                case REST:
                    return right == 0 ? 0 : cut(Math.floorMod(left, right));
                case LEAST:
                    return Math.min(left, right);
                case MOST:
                    return Math.max(left, right);
                case BELOW:
                    return left < right ? 1 : 0;
                case ABOVE:
                    return left > right ? 1 : 0;
                case SAME:
                    return left == right ? 1 : 0;
                case BOTH:
                    return left & right;
                case EITHER:
                    return left | right;
                default:
                    return 0;
            }
        }

        private static int cut(long result) {
            return (int) Math.max(-RESULT_MOST, Math.min(RESULT_MOST, result));
        }

        private void push(int value) {
            if (top >= 0 && top < STACK) {
                stack[top] = value;
                top++;
            }
        }

        private int pop() {
            if (top <= 0 || top > STACK) {
                return 0;
            }
            top--;
            return stack[top];
        }
    }

    /** The room as its text tells it; what changes in it is in a Scene. */
    private static final class Plan {
        private static final int[] COLUMN_STEP = {0, 1, 0, -1};
        private static final int[] ROW_STEP = {-1, 0, 1, 0};

        int statements = 0;
        int columns = 0;
        int rows = 0;
        int lamp = NONE;
        int breath = 0;
        int open = 0;
        // DOORS, HEIRS, BUBBLES: those of a sort stand EACH behind those of the one ahead.
        final int[] count = new int[SORTS];
        final int[] name = new int[SORTS * EACH];
        final int[] cell = new int[SORTS * EACH];
        final int[] way = new int[EACH];
        final int[] reach = new int[EACH];
        final int[] tall = new int[EACH];
        final int[] film = new int[EACH];
        final int[] size = new int[EACH];
        final Rules rules = new Rules();

        Plan() {
            clear();
        }

        void clear() {
            statements = 0;
            columns = 0;
            rows = 0;
            lamp = NONE;
            breath = 0;
            open = 0;
            Arrays.fill(count, 0);
            rules.clear();
        }

        boolean isThere(int sort, int which) {
            return sort >= 0 && sort < SORTS && which >= 0 && which < EACH && which < count[sort];
        }

        boolean isFull(int sort) {
            return sort < 0 || sort >= SORTS || count[sort] >= EACH;
        }

        /** Its number; the sort has room for it. */
        int add(int sort, int itsName, int itsCell) {
            if (isFull(sort)) {
                return 0;
            }
            int which = count[sort];
            name[EACH * sort + which] = itsName;
            cell[EACH * sort + which] = itsCell;
            count[sort]++;
            return which;
        }

        int withName(int sort, int itsName) {
            for (int which = 0; isThere(sort, which); which++) {
                if (name[EACH * sort + which] == itsName) {
                    return which;
                }
            }
            return NONE;
        }

        boolean isTaken(int sort, int itsCell) {
            for (int which = 0; isThere(sort, which); which++) {
                if (cell[EACH * sort + which] == itsCell) {
                    return true;
                }
            }
            return false;
        }

        int cellAt(int column, int row) {
            boolean inside = column >= 0 && column < columns && row >= 0 && row < rows;
            return inside ? WIDE * row + column : NONE;
        }

        /** The CELL one on along a WAY; NONE if it is not in the room, or without a WAY. */
        int next(int itsCell, int itsWay) {
            if (itsCell < 0 || itsWay < 0 || itsWay >= WAYS) {
                return NONE;
            }
            return cellAt(itsCell % WIDE + COLUMN_STEP[itsWay], itsCell / WIDE + ROW_STEP[itsWay]);
        }
    }

    /** Reads a text into a plan, up to its first FAULT. */
    private static final class Parser {
        private static final int WRONG = 1;
        private static final int NAMED_ALREADY = 2;
        private static final int NO_SHUT_DOOR = 3;
        private static final int CANNOT_BE = 4;
        private static final int TOO_DEEP = 5;
        private static final int TOO_MANY = 6;
        private static final int STATEMENTS_MOST = 80;
        private static final int OPEN_MOST = 7;

        private final Tokens tokens = new Tokens();
        private Plan plan = null;
        private Rules rules = null;
        private int ruleRead = NONE;
        int fault = 0;
        int place = NONE;

        boolean read(Tape tape, Plan into) {
            if (tape == null || into == null) {
                return false;
            }
            fault = 0;
            place = NONE;
            plan = into;
            rules = into.rules;
            plan.clear();
            tokens.open(tape);
            boolean well = true;
            for (int k = 0; well && k < TAPE_MOST && tokens.kind != Tokens.END; k++) {
                well = readStatement();
            }
            return well && (plan.statements > 0 || refuse(WRONG));
        }

        private boolean refuse(int kind) {
            return refuseAt(kind, tokens.place);
        }

        private boolean refuseAt(int kind, int where) {
            fault = kind;
            place = where;
            return false;
        }

        private int refuseNumber(int kind) {
            refuse(kind);
            return NONE;
        }

        private boolean readStatement() {
            if (plan.statements >= STATEMENTS_MOST) {
                return refuseAt(TOO_MANY, tokens.start);
            }
            boolean isRoom = tokens.own == Tokens.ROOM;
            boolean isFirst = plan.statements == 0;
            if (isRoom != isFirst || !readBody(tokens.own)) {
                return fault != 0 ? false : refuse(WRONG);
            }
            plan.statements++;
            return readSign(';');
        }

        private boolean readBody(int word) {
            switch (word) {
                case Tokens.ROOM:
                    return readWalls();
                case Tokens.LAMP:
                    return readLamp();
                case Tokens.A_DOOR:
                    return readDoor();
                case Tokens.OPEN:
                    return readOpen();
                case Tokens.A_HEIR:
                    return readHeir();
                case Tokens.A_BUBBLE:
                    return readBubble();
                case Tokens.THINS:
                    return readRule(Rules.THINS);
                case Tokens.BURSTS:
                    return readRule(Rules.BURSTS);
                case Tokens.HUE:
                    return readRule(Rules.HUE);
                case Tokens.BREATH:
                    return readBreath();
                default:
                    return refuse(WRONG);
            }
        }

        private boolean readWalls() {
            tokens.next();
            plan.columns = readNumber(3, 7);
            plan.rows = plan.columns == NONE || !readWord(Tokens.BY) ? NONE : readNumber(3, 7);
            return plan.rows != NONE;
        }

        private boolean readLamp() {
            tokens.next();
            plan.lamp = readCell(NONE);
            return plan.lamp != NONE;
        }

        private boolean readBreath() {
            tokens.next();
            plan.breath = readNumber(0, 100);
            return plan.breath != NONE;
        }

        private boolean readDoor() {
            if (plan.isFull(DOOR)) {
                return refuse(TOO_MANY);
            }
            tokens.next();
            int name = readNewName();
            int cell = name == NONE || !readWord(Tokens.AT) ? NONE : readCell(NONE);
            int way = cell == NONE ? NONE : readNumberBehind(Tokens.BLOWS, 0, WAYS - 1);
            int reach = way == NONE ? NONE : readNumberBehind(Tokens.REACH, 1, 6);
            if (reach == NONE) {
                return false;
            }
            int door = plan.add(DOOR, name, cell);
            plan.way[door] = way;
            plan.reach[door] = reach;
            return true;
        }

        private boolean readOpen() {
            tokens.next();
            if (!isName()) {
                return refuse(WRONG);
            }
            int door = plan.withName(DOOR, tokens.value);
            if (door == NONE || (plan.open >> door & 1) == 1) {
                return refuse(NO_SHUT_DOOR);
            }
            plan.open |= 1 << door;
            tokens.next();
            return true;
        }

        private boolean readHeir() {
            if (plan.isFull(HEIR)) {
                return refuse(TOO_MANY);
            }
            tokens.next();
            int name = readNewName();
            int cell = name == NONE || !readWord(Tokens.AT) ? NONE : readCell(HEIR);
            int tall = cell == NONE ? NONE : readNumberBehind(Tokens.TALL, 0, 9);
            if (tall == NONE) {
                return false;
            }
            plan.tall[plan.add(HEIR, name, cell)] = tall;
            return true;
        }

        private boolean readBubble() {
            if (plan.isFull(BUBBLE)) {
                return refuse(TOO_MANY);
            }
            tokens.next();
            int name = readNewName();
            int cell = name == NONE || !readWord(Tokens.AT) ? NONE : readCell(BUBBLE);
            int film = cell == NONE ? NONE : readNumberBehind(Tokens.FILM, 1, FILM_MOST);
            int size = film == NONE ? NONE : readNumberBehind(Tokens.SIZE, 1, SIZE_MOST);
            if (size == NONE) {
                return false;
            }
            int bubble = plan.add(BUBBLE, name, cell);
            plan.film[bubble] = film;
            plan.size[bubble] = size;
            return true;
        }

        private boolean readRule(int rule) {
            if (rules.isTold(rule)) {
                return refuse(TOO_MANY);
            }
            tokens.next();
            ruleRead = rule;
            rules.begin(rule);
            boolean well = rule == Rules.BURSTS ? readTest(0) : readSum(0);
            rules.finish(rule);
            return well;
        }

        private boolean readSign(int sign) {
            if (!tokens.isSign(sign)) {
                return refuse(WRONG);
            }
            tokens.next();
            return true;
        }

        private boolean readWord(int own) {
            if (tokens.own != own) {
                return refuse(WRONG);
            }
            tokens.next();
            return true;
        }

        private boolean isName() {
            return tokens.kind == Tokens.WORD && tokens.own == NONE;
        }

        private int readNewName() {
            if (!isName()) {
                return refuseNumber(WRONG);
            }
            int name = tokens.value;
            for (int sort = 0; sort < SORTS; sort++) {
                if (plan.withName(sort, name) != NONE) {
                    return refuseNumber(NAMED_ALREADY);
                }
            }
            tokens.next();
            return name;
        }

        private int numberHere(int least, int most) {
            if (tokens.kind != Tokens.NUMBER) {
                return refuseNumber(WRONG);
            }
            boolean canBe = tokens.value >= least && tokens.value <= most;
            return canBe ? tokens.value : refuseNumber(CANNOT_BE);
        }

        private int readNumber(int least, int most) {
            int number = numberHere(least, most);
            if (number != NONE) {
                tokens.next();
            }
            return number;
        }

        private int readNumberBehind(int own, int least, int most) {
            return readWord(own) ? readNumber(least, most) : NONE;
        }

        /** A CELL in which none of the sort is (sort NONE: any CELL). */
        private int readCell(int sort) {
            int column = readNumber(0, plan.columns - 1);
            int row = column == NONE ? NONE : numberHere(0, plan.rows - 1);
            if (row == NONE) {
                return NONE;
            }
            int cell = plan.cellAt(column, row);
            if (plan.isTaken(sort, cell)) {
                return refuseNumber(CANNOT_BE);
            }
            tokens.next();
            return cell;
        }

        private boolean readSum(int open) {
            boolean well = readProduct(open);
            for (int k = 0; well && k < TAPE_MOST && sumCode() != 0; k++) {
                int code = sumCode();
                tokens.next();
                well = readProduct(open);
                rules.add(code);
            }
            return well;
        }

        private int sumCode() {
            return tokens.isSign('+') ? Rules.ADD : tokens.isSign('-') ? Rules.LESSEN : 0;
        }

        private boolean readProduct(int open) {
            boolean well = readPart(open);
            for (int k = 0; well && k < TAPE_MOST && productCode() != 0; k++) {
                int code = productCode();
                tokens.next();
                well = readPart(open);
                rules.add(code);
            }
            return well;
        }

        private int productCode() {
            if (tokens.isSign('*')) {
                return Rules.TIMES;
            }
            return tokens.isSign('/') ? Rules.SHARE : tokens.isSign('%') ? Rules.REST : 0;
        }

        private boolean readPart(int open) {
            if (tokens.kind == Tokens.NUMBER) {
                rules.add(tokens.value);
                tokens.next();
                return true;
            }
            if (tokens.isSign('(')) {
                return readOpening('(', open) && readSum(open + 1) && readSign(')');
            }
            switch (tokens.own) {
                case Tokens.MIN:
                    return readPair(Rules.LEAST, open);
                case Tokens.MAX:
                    return readPair(Rules.MOST, open);
                case Tokens.IF:
                    return readChoice(open);
                default:
                    return readQuality();
            }
        }

        private boolean readOpening(int sign, int open) {
            if (tokens.isSign(sign) && open >= OPEN_MOST) {
                return refuse(TOO_DEEP);
            }
            return readSign(sign);
        }

        private boolean readPair(int code, int open) {
            tokens.next();
            boolean well = readOpening('(', open) && readSum(open + 1) && readSign(',')
                && readSum(open + 1) && readSign(')');
            rules.add(code);
            return well;
        }

        private boolean readChoice(int open) {
            tokens.next();
            boolean well = readOpening('(', open) && readTest(open + 1) && readSign(',')
                && readSum(open + 1) && readSign(',') && readSum(open + 1) && readSign(')');
            rules.add(Rules.CHOOSE);
            return well;
        }

        private boolean readQuality() {
            int code = qualityCode();
            if (code == 0) {
                return refuse(WRONG);
            }
            rules.add(code);
            tokens.next();
            return true;
        }

        private int qualityCode() {
            switch (tokens.own) {
                case Tokens.FILM:
                    return Rules.FILM;
                case Tokens.SIZE:
                    return Rules.SIZE;
                case Tokens.SECOND:
                    return Rules.SECOND;
                case Tokens.DRIFT:
                    return ruleRead == Rules.THINS ? Rules.DRIFT : 0;
                case Tokens.TALL:
                    return ruleRead == Rules.BURSTS ? Rules.TALL : 0;
                case Tokens.DEEDS:
                    return ruleRead == Rules.HUE ? Rules.DEEDS : 0;
                default:
                    return 0;
            }
        }

        private boolean readTest(int open) {
            boolean well = readBoth(open);
            for (int k = 0; well && k < TAPE_MOST && tokens.own == Tokens.OR; k++) {
                tokens.next();
                well = readBoth(open);
                rules.add(Rules.EITHER);
            }
            return well;
        }

        private boolean readBoth(int open) {
            boolean well = readFact(open);
            for (int k = 0; well && k < TAPE_MOST && tokens.own == Tokens.AND; k++) {
                tokens.next();
                well = readFact(open);
                rules.add(Rules.BOTH);
            }
            return well;
        }

        private boolean readFact(int open) {
            if (tokens.isSign('[')) {
                return readOpening('[', open) && readTest(open + 1) && readSign(']');
            }
            if (tokens.own == Tokens.NOT) {
                return readNot(open);
            }
            if (tokens.own == Tokens.ALL) {
                rules.add(1);
                tokens.next();
                return true;
            }
            return readSum(open) && readCompared(open);
        }

        private boolean readNot(int open) {
            if (open >= OPEN_MOST) {
                return refuse(TOO_DEEP);
            }
            tokens.next();
            boolean well = readFact(open + 1);
            rules.add(Rules.NOT);
            return well;
        }

        private boolean readCompared(int open) {
            int code = tokens.isSign('<') ? Rules.BELOW : tokens.isSign('>') ? Rules.ABOVE : Rules.SAME;
            if (code == Rules.SAME && !tokens.isSign('=')) {
                return refuse(WRONG);
            }
            tokens.next();
            boolean well = readSum(open);
            rules.add(code);
            return well;
        }
    }

    /** All that changes in a room. */
    private static final class Scene {
        static final int KEPT_PARTS = 4;

        int second = 0;
        int lamp = NONE;
        int open = 0;
        final int[] heirCell = new int[EACH];
        // NONE: the BUBBLE is GONE.
        final int[] bubbleCell = new int[EACH];
        final int[] film = new int[EACH];
        final int[] size = new int[EACH];
        final int[] deeds = new int[EACH];
        final int[] owner = new int[EACH];
        final int[] rent = new int[EACH];
        // Each BUBBLE bursts once at most until a new room or image comes, so EACH rows hold
        // all, and the 40 beyond which KEPT rows would not be told are never reached.
        final int[] keptRows = new int[EACH * KEPT_PARTS];
        int keptCount = 0;

        void begin(Plan plan) {
            second = 0;
            lamp = plan.lamp;
            open = plan.open;
            keptCount = 0;
            for (int k = 0; k < EACH; k++) {
                boolean floats = plan.isThere(BUBBLE, k);
                heirCell[k] = plan.isThere(HEIR, k) ? plan.cell[EACH * HEIR + k] : NONE;
                bubbleCell[k] = floats ? plan.cell[EACH * BUBBLE + k] : NONE;
                film[k] = floats ? plan.film[k] : 0;
                size[k] = floats ? plan.size[k] : 0;
                deeds[k] = floats ? 1 << k : 0;
                owner[k] = NONE;
                rent[k] = 0;
            }
        }

        void copy(Scene other) {
            second = other.second;
            lamp = other.lamp;
            open = other.open;
            keptCount = other.keptCount;
            System.arraycopy(other.heirCell, 0, heirCell, 0, EACH);
            System.arraycopy(other.bubbleCell, 0, bubbleCell, 0, EACH);
            System.arraycopy(other.film, 0, film, 0, EACH);
            System.arraycopy(other.size, 0, size, 0, EACH);
            System.arraycopy(other.deeds, 0, deeds, 0, EACH);
            System.arraycopy(other.owner, 0, owner, 0, EACH);
            System.arraycopy(other.rent, 0, rent, 0, EACH);
            System.arraycopy(other.keptRows, 0, keptRows, 0, keptRows.length);
        }

        int floating() {
            int floating = 0;
            for (int k = 0; k < EACH; k++) {
                floating += bubbleCell[k] == NONE ? 0 : 1;
            }
            return floating;
        }

        int heirIn(int cell) {
            for (int heir = 0; heir < EACH; heir++) {
                if (heirCell[heir] == cell && cell != NONE) {
                    return heir;
                }
            }
            return NONE;
        }

        int bubbleWith(int deed) {
            for (int bubble = 0; bubble < EACH; bubble++) {
                if ((deeds[bubble] >> deed & 1) == 1) {
                    return bubble;
                }
            }
            return NONE;
        }

        int deedsOwnedBy(int heir) {
            int owned = 0;
            for (int deed = 0; deed < EACH; deed++) {
                owned += owner[deed] == heir ? 1 : 0;
            }
            return owned;
        }

        int rentOwnedBy(int heir) {
            int owned = 0;
            for (int deed = 0; deed < EACH; deed++) {
                owned += owner[deed] == heir ? rent[deed] : 0;
            }
            return owned;
        }

        int rentOfAll() {
            int all = 0;
            for (int deed = 0; deed < EACH; deed++) {
                all += rent[deed];
            }
            return all;
        }

        void clearBubble(int bubble) {
            if (bubble >= 0 && bubble < EACH) {
                bubbleCell[bubble] = NONE;
                film[bubble] = 0;
                size[bubble] = 0;
                deeds[bubble] = 0;
            }
        }

        void keep(int bubble, int heir, int howMany) {
            if (keptCount >= 0 && keptCount < EACH) {
                int row = KEPT_PARTS * keptCount;
                keptRows[row] = second;
                keptRows[row + 1] = bubble;
                keptRows[row + 2] = heir;
                keptRows[row + 3] = howMany;
                keptCount++;
            }
        }
    }

    /** How a SECOND goes. */
    private static final class Works {
        private final int[] wind = new int[CELLS];
        private final int[] drifted = new int[EACH];
        private Plan plan = null;
        private Rules rules = null;

        /** DRAUGHTS change by DOORS alone, so they are looked up once for many SECONDS. */
        void prepare(Plan itsPlan, Scene scene) {
            plan = itsPlan;
            rules = itsPlan.rules;
            Arrays.fill(wind, NONE);
            for (int door = 0; plan.isThere(DOOR, door); door++) {
                if ((scene.open >> door & 1) == 1) {
                    blow(door);
                }
            }
        }

        private void blow(int door) {
            int cell = plan.cell[door];
            for (int k = 0; k <= plan.reach[door] && cell >= 0 && cell < CELLS; k++) {
                if (wind[cell] == NONE) {
                    wind[cell] = plan.way[door];
                }
                cell = plan.next(cell, plan.way[door]);
            }
        }

        int windIn(int cell) {
            return cell >= 0 && cell < CELLS ? wind[cell] : NONE;
        }

        /** How many BURST; breath is the WAY of a breath, NONE without one. */
        int pass(Scene scene, int breath) {
            if (plan == null || rules == null) {
                return 0;
            }
            int burst = 0;
            driftAll(scene, breath);
            joinAll(scene);
            for (int bubble = 0; bubble < EACH; bubble++) {
                if (scene.bubbleCell[bubble] != NONE) {
                    burst += thinOne(scene, bubble) ? 1 : 0;
                }
            }
            scene.second = Math.min(LAST_SECOND, scene.second + 1);
            return burst;
        }

        private void driftAll(Scene scene, int breath) {
            for (int bubble = 0; bubble < EACH; bubble++) {
                int cell = scene.bubbleCell[bubble];
                int way = windIn(cell);
                int next = plan.next(cell, way == NONE ? breath : way);
                drifted[bubble] = next == NONE ? 0 : 1;
                if (next != NONE) {
                    scene.bubbleCell[bubble] = next;
                }
            }
        }

        private void joinAll(Scene scene) {
            for (int bubble = 0; bubble < EACH; bubble++) {
                for (int other = bubble + 1; other < EACH; other++) {
                    int cell = scene.bubbleCell[bubble];
                    if (cell != NONE && cell == scene.bubbleCell[other]) {
                        scene.film[bubble] = Math.max(scene.film[bubble], scene.film[other]);
                        scene.size[bubble] = Math.min(SIZE_MOST, scene.size[bubble] + scene.size[other]);
                        scene.deeds[bubble] |= scene.deeds[other];
                        scene.clearBubble(other);
                    }
                }
            }
        }

        /** Whether it BURSTS. */
        private boolean thinOne(Scene scene, int bubble) {
            rules.setQuality(Rules.FILM, scene.film[bubble]);
            rules.setQuality(Rules.SIZE, scene.size[bubble]);
            rules.setQuality(Rules.SECOND, scene.second);
            rules.setQuality(Rules.DRIFT, drifted[bubble]);
            int less = rules.isTold(Rules.THINS) ? rules.result(Rules.THINS) : 1;
            int film = Math.max(0, Math.min(FILM_MOST, scene.film[bubble] - less));
            scene.film[bubble] = film;
            rules.setQuality(Rules.FILM, film);
            int heir = scene.heirIn(scene.bubbleCell[bubble]);
            boolean heirThere = heir >= 0 && heir < EACH;
            rules.setQuality(Rules.TALL, heirThere ? plan.tall[heir] : 0);
            if (film == 0 || rules.result(Rules.BURSTS) != 0) {
                burstOne(scene, bubble, heir);
                return true;
            }
            if (scene.bubbleCell[bubble] == scene.lamp) {
                lightOne(scene, bubble);
            }
            return false;
        }

        private void burstOne(Scene scene, int bubble, int heir) {
            int deeds = scene.deeds[bubble];
            for (int deed = 0; deed < EACH; deed++) {
                if ((deeds >> deed & 1) == 1) {
                    scene.owner[deed] = heir;
                }
            }
            scene.keep(bubble, heir, Integer.bitCount(deeds));
            scene.clearBubble(bubble);
        }

        private void lightOne(Scene scene, int bubble) {
            int deeds = scene.deeds[bubble];
            rules.setQuality(Rules.DEEDS, Integer.bitCount(deeds));
            int hue = rules.isTold(Rules.HUE) ? rules.result(Rules.HUE) : scene.film[bubble] / 10;
            int more = Math.max(0, Math.min(9, hue));
            for (int deed = 0; deed < EACH; deed++) {
                if ((deeds >> deed & 1) == 1) {
                    scene.rent[deed] = Math.min(RENT_MOST, scene.rent[deed] + more);
                }
            }
        }
    }

    /** What comes AHEAD, tried on a scene of its own; and FELT, by which a BUBBLE's CELL is sought. */
    private static final class Seer {
        private static final int FELT_MOST = 16;
        private static final int FELT_PARTS = 4;
        private static final int FELT_SECONDS = 30;
        // For each number of SECONDS a count for each CELL, and one for GONE.
        private static final int GROUPS = CELLS + 1;

        private final Scene trial = new Scene();
        private final int[] felt = new int[FELT_MOST * FELT_PARTS];
        private final int[] path = new int[FELT_SECONDS + 1];
        private final int[] groups = new int[(FELT_SECONDS + 1) * GROUPS];
        private Plan plan = null;
        private Scene now = null;
        private Works works = null;
        final int[] fromCell = new int[CELLS];
        private int fromCount = 0;
        int feltCount = 0;
        int bestCell = NONE;
        int bestWorth = NONE;
        int tellingSecond = NONE;
        int tellingLeft = NONE;

        void look(Plan itsPlan, Scene itsNow, Works itsWorks) {
            plan = itsPlan;
            now = itsNow;
            works = itsWorks;
            trial.copy(now);
            works.prepare(plan, trial);
        }

        private void run(int n) {
            for (int k = 0; k < n; k++) {
                works.pass(trial, NONE);
            }
        }

        Scene after(int n) {
            run(n);
            return trial;
        }

        int secondOfGoing(int bubble, int most) {
            for (int k = 0; k < most; k++) {
                works.pass(trial, NONE);
                if (trial.bubbleCell[bubble] == NONE) {
                    return k;
                }
            }
            return NONE;
        }

        int fewestDoors(int deed, int heir, int n) {
            int best = NONE;
            int sets = 1 << plan.count[DOOR];
            for (int set = 0; set < sets; set++) {
                if (best != NONE && Integer.bitCount(set) >= Integer.bitCount(best)) {
                    continue;
                }
                trial.copy(now);
                trial.open ^= set;
                works.prepare(plan, trial);
                run(n);
                if (trial.owner[deed] == heir) {
                    best = set;
                }
            }
            return best;
        }

        void findStand(int heir, int n) {
            forgetBest();
            for (int cell = 0; cell < CELLS; cell++) {
                boolean free = now.heirCell[heir] == cell || now.heirIn(cell) == NONE;
                if (isInRoom(cell) && free) {
                    trial.copy(now);
                    trial.heirCell[heir] = cell;
                    run(n);
                    compare(cell, trial.deedsOwnedBy(heir));
                }
            }
        }

        void findShine(int n) {
            forgetBest();
            for (int cell = 0; cell < CELLS; cell++) {
                if (isInRoom(cell)) {
                    trial.copy(now);
                    trial.lamp = cell;
                    run(n);
                    compare(cell, trial.rentOfAll());
                }
            }
        }

        private boolean isInRoom(int cell) {
            return plan.cellAt(cell % WIDE, cell / WIDE) != NONE;
        }

        private void forgetBest() {
            bestCell = NONE;
            bestWorth = NONE;
        }

        private void compare(int cell, int worth) {
            if (worth > bestWorth) {
                bestCell = cell;
                bestWorth = worth;
            }
        }

        int leastFilm(int bubble, int n) {
            for (int film = 1; film <= FILM_MOST; film++) {
                trial.copy(now);
                trial.film[bubble] = film;
                run(n);
                if (trial.bubbleCell[bubble] != NONE) {
                    return film;
                }
            }
            return NONE;
        }

        int rowsToOwn(int deed, int heir) {
            int rows = WAYS * (100 - plan.breath) * ownedBehindNext(deed, heir, NONE);
            for (int way = 0; way < WAYS; way++) {
                rows += plan.breath * ownedBehindNext(deed, heir, way);
            }
            return rows;
        }

        private int ownedBehindNext(int deed, int heir, int breath) {
            trial.copy(now);
            works.pass(trial, breath);
            return trial.owner[deed] == heir ? 1 : 0;
        }

        void forget() {
            feltCount = 0;
        }

        boolean takeFelt(Tape tape, Plan itsPlan) {
            int rows = tape.length / FELT_PARTS;
            if (rows < 1 || rows > FELT_MOST || tape.length % FELT_PARTS != 0) {
                return false;
            }
            for (int row = 0; row < rows; row++) {
                if (!canBeFelt(tape, FELT_PARTS * row, itsPlan)) {
                    return false;
                }
            }
            for (int k = 0; k < FELT_PARTS * rows && k < felt.length; k++) {
                felt[k] = tape.at(k);
            }
            feltCount = rows;
            return true;
        }

        private boolean canBeFelt(Tape tape, int k, Plan itsPlan) {
            int column = tape.at(k + 2);
            int row = tape.at(k + 3);
            boolean isGone = column == OUTSIDE && row == OUTSIDE;
            return tape.at(k) <= FELT_SECONDS && itsPlan.isThere(BUBBLE, tape.at(k + 1))
                && (isGone || itsPlan.cellAt(column, row) != NONE);
        }

        /** How many CELLS are FROM; they stand in fromCell. */
        int findFrom(int bubble) {
            int last = lastFelt();
            fromCount = 0;
            for (int cell = 0; cell < CELLS; cell++) {
                if (isInRoom(cell) && follow(bubble, cell, last)) {
                    fromCell[fromCount] = cell;
                    fromCount++;
                }
            }
            return fromCount;
        }

        private int lastFelt() {
            int last = 0;
            for (int row = 0; row < feltCount && row < FELT_MOST; row++) {
                last = Math.max(last, felt[FELT_PARTS * row]);
            }
            return last;
        }

        /** Whether all FELT is so with the BUBBLE in that CELL; path has its CELLS up to the last SECOND. */
        private boolean follow(int bubble, int cell, int last) {
            if (now.second + lastFelt() > LAST_SECOND) {
                return false;
            }
            trial.copy(now);
            trial.bubbleCell[bubble] = cell;
            for (int n = 0; n <= last && n < path.length; n++) {
                if (n > 0) {
                    works.pass(trial, NONE);
                }
                if (!isAsFelt(n)) {
                    return false;
                }
                path[n] = trial.bubbleCell[bubble];
            }
            return true;
        }

        private boolean isAsFelt(int n) {
            for (int row = 0; row < feltCount && row < FELT_MOST; row++) {
                int k = FELT_PARTS * row;
                boolean known = plan.isThere(BUBBLE, felt[k + 1]);
                if (felt[k] == n && (!known || trial.bubbleCell[felt[k + 1]] != plan.cellAt(felt[k + 2], felt[k + 3]))) {
                    return false;
                }
            }
            return true;
        }

        /** False without any CELL left, or when no SECOND comes. */
        boolean findTelling(int bubble) {
            int last = Math.min(FELT_SECONDS, LAST_SECOND - now.second);
            int left = 0;
            Arrays.fill(groups, 0);
            for (int cell = 0; cell < CELLS; cell++) {
                if (isInRoom(cell) && follow(bubble, cell, last)) {
                    left++;
                    countPath(last);
                }
            }
            tellingSecond = NONE;
            tellingLeft = left + 1;
            for (int n = 1; n <= last && left > 0; n++) {
                int most = largestGroup(n);
                if (most < tellingLeft) {
                    tellingSecond = n;
                    tellingLeft = most;
                }
            }
            return tellingSecond != NONE;
        }

        private void countPath(int last) {
            for (int n = 1; n <= last && n < path.length; n++) {
                int group = path[n] == NONE ? CELLS : path[n];
                if (group >= 0 && group < GROUPS) {
                    groups[GROUPS * n + group]++;
                }
            }
        }

        private int largestGroup(int n) {
            int most = 0;
            for (int group = 0; group < GROUPS; group++) {
                most = Math.max(most, groups[GROUPS * n + group]);
            }
            return most;
        }
    }

    /** The scenes ahead of the last ACTS, in a ring. */
    private static final class History {
        private static final int ACTS_MOST = 20;

        private final Scene[] scenes = new Scene[ACTS_MOST];
        private int first = 0;
        int count = 0;

        History() {
            for (int k = 0; k < ACTS_MOST; k++) {
                scenes[k] = new Scene();
            }
        }

        void clear() {
            first = 0;
            count = 0;
        }

        void push(Scene scene) {
            scenes[(first + count) % ACTS_MOST].copy(scene);
            if (count < ACTS_MOST) {
                count++;
            } else {
                first = (first + 1) % ACTS_MOST;
            }
        }

        /** False when there is none. */
        boolean pop(Scene into) {
            if (count <= 0) {
                return false;
            }
            count--;
            into.copy(scenes[(first + count) % ACTS_MOST]);
            return true;
        }
    }

    /** IMAGES written, and read into a scene of their own. */
    private static final class Images {
        private static final int BYTES_MOST = 5 + EACH + 2 * EACH + 5 * EACH + 3 * EACH;

        final int[] bytes = new int[BYTES_MOST];
        int length = 0;
        final Scene told = new Scene();
        private Tape tape = null;
        private int at = 0;

        int write(Plan plan, Scene scene) {
            length = 0;
            putTwo(scene.second);
            putCell(scene.lamp);
            for (int door = 0; door < plan.count[DOOR]; door++) {
                put(scene.open >> door & 1);
            }
            for (int heir = 0; plan.isThere(HEIR, heir); heir++) {
                putCell(scene.heirCell[heir]);
            }
            for (int bubble = 0; plan.isThere(BUBBLE, bubble); bubble++) {
                putCell(scene.bubbleCell[bubble]);
                put(scene.film[bubble]);
                put(scene.size[bubble]);
                put(scene.deeds[bubble]);
            }
            for (int deed = 0; plan.isThere(BUBBLE, deed); deed++) {
                put(scene.owner[deed] == NONE ? OUTSIDE : scene.owner[deed]);
                putTwo(scene.rent[deed]);
            }
            int check = 197;
            for (int k = 0; k < length && k < bytes.length; k++) {
                check = checkOn(check, bytes[k]);
            }
            put(check);
            return length;
        }

        private static int checkOn(int check, int octet) {
            return (5 * check + octet) % 251;
        }

        private void put(int octet) {
            if (length >= 0 && length < bytes.length) {
                bytes[length] = octet;
                length++;
            }
        }

        private void putTwo(int number) {
            put(number / 256);
            put(number % 256);
        }

        private void putCell(int cell) {
            put(cell == NONE ? OUTSIDE : cell % WIDE);
            put(cell == NONE ? OUTSIDE : cell / WIDE);
        }

        /** Whether the tape is AN IMAGE of the room; if so, told is as it tells. */
        boolean read(Tape itsTape, Plan plan) {
            tape = itsTape;
            at = 0;
            told.begin(plan);
            return isChecked(plan) && readTimeAndLamp(plan) && readDoors(plan) && readHeirs(plan)
                && readBubbles(plan) && readDeeds(plan);
        }

        private boolean isChecked(Plan plan) {
            int due = 5 + plan.count[DOOR] + 2 * plan.count[HEIR] + 8 * plan.count[BUBBLE];
            if (tape.length != due) {
                return false;
            }
            int check = 197;
            for (int k = 0; k < due - 1; k++) {
                check = checkOn(check, tape.at(k));
            }
            return check == tape.at(due - 1);
        }

        private int take() {
            at++;
            return tape.at(at - 1);
        }

        private int takeTwo() {
            int high = take();
            return 256 * high + take();
        }

        private boolean readTimeAndLamp(Plan plan) {
            told.second = takeTwo();
            int column = take();
            int row = take();
            told.lamp = plan.cellAt(column, row);
            return told.second <= LAST_SECOND && (told.lamp != NONE || isOutside(column, row));
        }

        private static boolean isOutside(int column, int row) {
            return column == OUTSIDE && row == OUTSIDE;
        }

        private boolean readDoors(Plan plan) {
            told.open = 0;
            for (int door = 0; plan.isThere(DOOR, door); door++) {
                int flag = take();
                if (flag < 0 || flag > 1) {
                    return false;
                }
                told.open |= flag << door;
            }
            return true;
        }

        private boolean readHeirs(Plan plan) {
            Arrays.fill(told.heirCell, NONE);
            for (int heir = 0; plan.isThere(HEIR, heir); heir++) {
                int column = take();
                int cell = plan.cellAt(column, take());
                if (cell == NONE || told.heirIn(cell) != NONE) {
                    return false;
                }
                told.heirCell[heir] = cell;
            }
            return true;
        }

        private boolean readBubbles(Plan plan) {
            int deedsSeen = 0;
            int allDeeds = (1 << plan.count[BUBBLE]) - 1;
            Arrays.fill(told.bubbleCell, NONE);
            for (int bubble = 0; plan.isThere(BUBBLE, bubble); bubble++) {
                int column = take();
                int row = take();
                int cell = plan.cellAt(column, row);
                boolean free = cell == NONE ? isOutside(column, row) : !isBubbleIn(cell);
                told.film[bubble] = take();
                told.size[bubble] = take();
                int deeds = take();
                if (!free || (deeds & ~allDeeds) != 0 || (deeds & deedsSeen) != 0) {
                    return false;
                }
                told.bubbleCell[bubble] = cell;
                told.deeds[bubble] = deeds;
                deedsSeen |= deeds;
                if (!canBeBubble(bubble)) {
                    return false;
                }
            }
            return true;
        }

        private boolean isBubbleIn(int cell) {
            for (int bubble = 0; bubble < EACH; bubble++) {
                if (told.bubbleCell[bubble] == cell) {
                    return true;
                }
            }
            return false;
        }

        private boolean canBeBubble(int bubble) {
            int film = told.film[bubble];
            int size = told.size[bubble];
            int deeds = told.deeds[bubble];
            if (told.bubbleCell[bubble] == NONE) {
                return film == 0 && size == 0 && deeds == 0;
            }
            return film >= 1 && film <= FILM_MOST && size >= 1 && size <= SIZE_MOST && deeds != 0;
        }

        private boolean readDeeds(Plan plan) {
            for (int deed = 0; plan.isThere(BUBBLE, deed); deed++) {
                int heir = take();
                boolean nobody = heir == OUTSIDE;
                boolean somebody = plan.isThere(HEIR, heir) && told.bubbleWith(deed) == NONE;
                told.owner[deed] = nobody ? NONE : heir;
                told.rent[deed] = takeTwo();
                if (!nobody && !somebody || told.rent[deed] > RENT_MOST) {
                    return false;
                }
            }
            return true;
        }
    }
}
