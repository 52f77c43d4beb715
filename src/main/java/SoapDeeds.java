import java.util.Arrays;

/** A room told as a text, in which soap bubbles drift, join, thin and burst over heirs. */
public final class SoapDeeds {
    public static final int NONE = -1;

    // A CELL is 8 times its row and its column, as from() tells it.
    private static final int WIDE = 8;
    private static final int CELLS = 64;
    private static final int EACH = 6;
    private static final int DOOR = 0;
    private static final int HEIR = 1;
    private static final int BUBBLE = 2;
    private static final int SORTS = 3;
    private static final int TAPE_MOST = 1600;
    private static final int LAST_SECOND = 999;
    private static final int RENT_MOST = 999;
    private static final int FILM_MOST = 99;
    private static final int SIZE_MOST = 9;
    private static final int HUE_MOST = 9;
    private static final int HUNDRED = 100;
    private static final int WAYS = 4;
    private static final int OUTSIDE = 255;

    private static final int RUN_MOST = 40;
    private static final int PLAN_MOST = 20;
    private static final int OF_TAPE = 0;
    private static final int OF_ROOM = 1;
    private static final int OF_SECONDS = 2;
    private static final int OF_MOVES = 3;
    private static final int OF_UNDO = 4;
    private static final int OF_READING = 5;

    private final Tape tape = new Tape();
    private final Parser parser = new Parser();
    private final Scene scene = new Scene();
    private final Works works = new Works();
    private final Seer seer = new Seer();
    private final History history = new History();
    private final Images images = new Images();
    private final int[] refusals = new int[6];
    private Plan plan = new Plan();
    private int seedNow = 1;

    public SoapDeeds() {
        scene.begin(plan);
    }

    public int feed(int a, int b, int c, int d, int e) {
        if (tape.length + 20 > TAPE_MOST) {
            return refusedNumber(OF_TAPE);
        }
        tape.add(a);
        tape.add(b);
        tape.add(c);
        tape.add(d);
        tape.add(e);
        return tape.length;
    }

    public boolean end(int n) {
        if (n < 0 || n > tape.length) {
            return refused(OF_TAPE);
        }
        tape.length = n;
        return true;
    }

    public int room() {
        boolean well = parser.read(tape);
        tape.length = 0;
        if (!well) {
            return refusedNumber(OF_ROOM);
        }
        plan = parser.handOver(plan);
        scene.begin(plan);
        history.clear();
        seer.forget();
        return plan.statements;
    }

    public int fault(int what) {
        switch (what) {
            case 0:
                return parser.fault;
            case 1:
                return parser.place;
            default:
                return NONE;
        }
    }

    public int has(int what) {
        switch (what) {
            case 0:
                return plan.columns;
            case 1:
                return plan.rows;
            case 2:
                return plan.many(DOOR);
            case 3:
                return plan.many(HEIR);
            case 4:
                return plan.many(BUBBLE);
            case 5:
                return scene.second;
            case 6:
                return scene.floating();
            case 7:
                return ownedDeeds();
            case 8:
                return lostDeeds();
            case 9:
                return scene.keptCount;
            case 10:
                return seer.feltCount;
            case 11:
                return history.count;
            case 12:
                return seedNow;
            default:
                return NONE;
        }
    }

    public int letter(int kind, int which, int k) {
        if (k < 0 || k >= Tokens.NAME_MOST || !plan.isThere(kind, which)) {
            return NONE;
        }
        return plan.nameOf(kind, which) >> Tokens.LETTER_BITS * k & Tokens.LETTER_MASK;
    }

    public int lamp(int what) {
        return placePart(scene.lamp, what);
    }

    public int door(int door, int what) {
        if (!plan.isThere(DOOR, door)) {
            return NONE;
        }
        switch (what) {
            case 0:
            case 1:
                return placePart(plan.cellOf(DOOR, door), what);
            case 2:
                return plan.way[door];
            case 3:
                return plan.reach[door];
            case 4:
                return scene.open >> door & 1;
            default:
                return NONE;
        }
    }

    public int heir(int heir, int what) {
        if (!plan.isThere(HEIR, heir)) {
            return NONE;
        }
        switch (what) {
            case 0:
            case 1:
                return placePart(scene.heirCell[heir], what);
            case 2:
                return plan.tall[heir];
            case 3:
                return scene.deedsOwnedBy(heir);
            case 4:
                return scene.rentOwnedBy(heir);
            default:
                return NONE;
        }
    }

    public int bubble(int bubble, int what) {
        if (!plan.isThere(BUBBLE, bubble)) {
            return NONE;
        }
        switch (what) {
            case 0:
            case 1:
                return placePart(scene.bubbleCell[bubble], what);
            case 2:
                return scene.film[bubble];
            case 3:
                return scene.size[bubble];
            case 4:
                return scene.deeds[bubble];
            default:
                return NONE;
        }
    }

    public int deed(int deed, int what) {
        if (!plan.isThere(BUBBLE, deed)) {
            return NONE;
        }
        switch (what) {
            case 0:
                return scene.owner[deed];
            case 1:
                return scene.bubbleWith(deed);
            case 2:
                return scene.rent[deed];
            default:
                return NONE;
        }
    }

    public int draught(int column, int row) {
        int cell = plan.cellAt(column, row);
        if (cell == NONE) {
            return NONE;
        }
        works.prepare(plan, scene);
        return works.windIn(cell);
    }

    public int later(int bubble, int n, int what) {
        if (!plan.isThere(BUBBLE, bubble) || !canPass(n, 0, RUN_MOST)) {
            return NONE;
        }
        Scene then = seer.after(plan, scene, n);
        return what == 2 ? then.film[bubble] : placePart(then.bubbleCell[bubble], what);
    }

    public int goes(int bubble) {
        if (!floats(bubble)) {
            return NONE;
        }
        return seer.secondOfGoing(plan, scene, bubble);
    }

    public int owner(int deed, int n) {
        if (!plan.isThere(BUBBLE, deed) || !canPass(n, 0, RUN_MOST)) {
            return NONE;
        }
        return seer.after(plan, scene, n).owner[deed];
    }

    public int doors(int deed, int heir, int n) {
        if (!plan.isThere(BUBBLE, deed) || !plan.isThere(HEIR, heir) || !canPass(n, 0, PLAN_MOST)) {
            return NONE;
        }
        return seer.fewestDoors(plan, scene, deed, heir, n);
    }

    public int stand(int heir, int n, int what) {
        if (!plan.isThere(HEIR, heir) || !canPass(n, 1, PLAN_MOST)) {
            return NONE;
        }
        seer.findStand(plan, scene, heir, n);
        return what == 2 ? seer.bestWorth : placePart(seer.bestCell, what);
    }

    public int shine(int n, int what) {
        if (plan.columns == 0 || !canPass(n, 1, PLAN_MOST)) {
            return NONE;
        }
        seer.findShine(plan, scene, n);
        return what == 2 ? seer.bestWorth : placePart(seer.bestCell, what);
    }

    public int lasts(int bubble, int n) {
        if (!floats(bubble) || !canPass(n, 1, PLAN_MOST)) {
            return NONE;
        }
        return seer.leastFilm(plan, scene, bubble, n);
    }

    public int odds(int deed, int heir) {
        if (!plan.isThere(BUBBLE, deed) || !plan.isThere(HEIR, heir) || !canPass(1, 1, 1)) {
            return NONE;
        }
        return seer.rowsToOwn(plan, scene, deed, heir);
    }

    public int feel() {
        boolean well = seer.takeFelt(tape, plan);
        tape.length = 0;
        return well ? seer.feltCount : refusedNumber(OF_READING);
    }

    public int from(int bubble, int k) {
        if (!floats(bubble)) {
            return NONE;
        }
        seer.findFrom(plan, scene, bubble);
        return k == NONE ? seer.fromCount : seer.fromAt(k);
    }

    public int tells(int bubble, int what) {
        if (!floats(bubble) || what < 0 || what > 1 || !seer.findTelling(plan, scene, bubble)) {
            return NONE;
        }
        return what == 0 ? seer.tellingSecond : seer.tellingLeft;
    }

    public int seconds(int n) {
        return goBy(n, false);
    }

    public int chance(int n) {
        return goBy(n, true);
    }

    public boolean swing(int door, int on) {
        if (!plan.isThere(DOOR, door) || on < 0 || on > 1 || (scene.open >> door & 1) == on) {
            return refused(OF_MOVES);
        }
        history.push(scene);
        scene.open ^= 1 << door;
        return true;
    }

    public boolean tiptoe(int heir, int way) {
        if (!plan.isThere(HEIR, heir)) {
            return refused(OF_MOVES);
        }
        int cell = plan.next(scene.heirCell[heir], way);
        if (cell == NONE || scene.heirIn(cell) != NONE) {
            return refused(OF_MOVES);
        }
        history.push(scene);
        scene.heirCell[heir] = cell;
        return true;
    }

    public boolean carry(int column, int row) {
        int cell = plan.cellAt(column, row);
        if (cell == NONE || cell == scene.lamp) {
            return refused(OF_MOVES);
        }
        history.push(scene);
        scene.lamp = cell;
        return true;
    }

    public boolean undo() {
        return history.pop(scene) || refused(OF_UNDO);
    }

    public boolean seed(int seed) {
        if (seed < 0) {
            return refused(OF_READING);
        }
        seedNow = seed;
        return true;
    }

    public int kept(int k, int what) {
        if (k < 0 || k >= scene.keptCount || what < 0 || what >= Scene.KEPT_PARTS) {
            return NONE;
        }
        return scene.keptRows[Scene.KEPT_PARTS * k + what];
    }

    public int image() {
        return images.write(plan, scene);
    }

    public int octet(int k) {
        return k >= 0 && k < images.length ? images.bytes[k] : NONE;
    }

    public boolean on() {
        boolean well = plan.columns > 0 && images.read(tape, plan);
        tape.length = 0;
        if (!well) {
            return refused(OF_READING);
        }
        scene.copy(images.told);
        history.clear();
        return true;
    }

    public int status(int what) {
        return what >= 0 && what < refusals.length ? refusals[what] : NONE;
    }

    private boolean refused(int what) {
        if (what >= 0 && what < refusals.length) {
            refusals[what]++;
        }
        return false;
    }

    private int refusedNumber(int what) {
        refused(what);
        return NONE;
    }

    private int placePart(int cell, int what) {
        if (cell == NONE) {
            return NONE;
        }
        switch (what) {
            case 0:
                return cell % WIDE;
            case 1:
                return cell / WIDE;
            default:
                return NONE;
        }
    }

    private int ownedDeeds() {
        int owned = 0;
        for (int deed = 0; deed < plan.many(BUBBLE); deed++) {
            owned += scene.owner[deed] == NONE ? 0 : 1;
        }
        return owned;
    }

    private int lostDeeds() {
        int floating = 0;
        for (int bubble = 0; bubble < plan.many(BUBBLE); bubble++) {
            floating += Integer.bitCount(scene.deeds[bubble]);
        }
        return plan.many(BUBBLE) - floating - ownedDeeds();
    }

    private boolean floats(int bubble) {
        return plan.isThere(BUBBLE, bubble) && scene.bubbleCell[bubble] != NONE;
    }

    private boolean canPass(int n, int least, int most) {
        return n >= least && n <= most && n <= LAST_SECOND - scene.second;
    }

    /** How many BURST, or how many breaths there were if it goes by the seed. */
    private int goBy(int n, boolean bySeed) {
        if (plan.columns == 0 || !canPass(n, 1, RUN_MOST)) {
            return refusedNumber(OF_SECONDS);
        }
        history.push(scene);
        works.prepare(plan, scene);
        int breaths = 0;
        int burst = 0;
        for (int k = 0; k < n; k++) {
            boolean breathes = bySeed && draw(HUNDRED) < plan.breath;
            int way = breathes ? draw(WAYS) : NONE;
            breaths += breathes ? 1 : 0;
            burst += works.pass(plan, scene, way);
        }
        return bySeed ? breaths : burst;
    }

    private int draw(int m) {
        seedNow = (int) (1103515245L * seedNow + 12345L & 0x7fffffffL);
        return m > 0 ? seedNow / 64 % m : 0;
    }

    /** The bytes that were fed and not yet read. */
    private static final class Tape {
        private final byte[] bytes = new byte[TAPE_MOST];
        int length = 0;

        void add(int number) {
            for (int shift = 24; shift >= 0; shift -= 8) {
                if (length >= 0 && length < bytes.length) {
                    bytes[length] = (byte) (number >> shift);
                    length++;
                }
            }
        }

        int at(int k) {
            return k >= 0 && k < length && k < bytes.length ? bytes[k] & 255 : NONE;
        }
    }

    /** A text cut into words, numbers and signs, which are then gone through one by one. */
    private static final class Tokens {
        // What a token is, in one number: a NUMBER is itself; a sign is its byte on top of FIRST_SIGN;
        // an OWN WORD is one of those below; a NAME is its letters, 5 bits each, on top of FIRST_NAME.
        static final int END = -2;
        // What may stand nowhere (a 7th letter, a 5th digit, no blank): nothing that is asked for is like it.
        private static final int BAD = -1;
        private static final int FIRST_SIGN = 10000;
        private static final int FIRST_OWN = 20000;
        private static final int FIRST_NAME = 1 << 30;

        static final int ROOM = FIRST_OWN;
        static final int BY = FIRST_OWN + 1;
        static final int LAMP = FIRST_OWN + 2;
        static final int A_DOOR = FIRST_OWN + 3;
        static final int AT = FIRST_OWN + 4;
        static final int BLOWS = FIRST_OWN + 5;
        static final int REACH = FIRST_OWN + 6;
        static final int OPEN = FIRST_OWN + 7;
        static final int A_HEIR = FIRST_OWN + 8;
        static final int TALL = FIRST_OWN + 9;
        static final int A_BUBBLE = FIRST_OWN + 10;
        static final int FILM = FIRST_OWN + 11;
        static final int SIZE = FIRST_OWN + 12;
        static final int THINS = FIRST_OWN + 13;
        static final int BURSTS = FIRST_OWN + 14;
        static final int HUE = FIRST_OWN + 15;
        static final int BREATH = FIRST_OWN + 16;
        static final int SECOND = FIRST_OWN + 17;
        static final int DRIFT = FIRST_OWN + 18;
        static final int DEEDS = FIRST_OWN + 19;
        static final int IF = FIRST_OWN + 20;
        static final int OR = FIRST_OWN + 21;
        static final int AND = FIRST_OWN + 22;
        static final int NOT = FIRST_OWN + 23;
        static final int ALL = FIRST_OWN + 24;
        static final int MIN = FIRST_OWN + 25;
        static final int MAX = FIRST_OWN + 26;
        private static final int OWN_WORDS = 27;
        // In the order of their numbers above.
        private static final String OWN =
            "room by lamp door at blows reach open heir tall bubble film size thins bursts hue breath second drift deeds if or and not all min max";

        static final int NAME_MOST = 6;
        static final int LETTER_BITS = 5;
        static final int LETTER_MASK = 31;
        private static final int DIGITS_MOST = 4;

        private final int[] ownLetters = new int[OWN_WORDS];
        private final int[] codes = new int[TAPE_MOST];
        private final int[] starts = new int[TAPE_MOST];
        private int count = 0;
        private int textLength = 0;
        private int badPlace = NONE;
        private int at = 0;
        private int scanned = 0;
        int code = END;
        int start = 0;
        // Where FAULT 1 is if this may not stand here: the start, but for a letter or digit too many.
        int place = 0;

        Tokens() {
            int word = 0;
            int letters = 0;
            for (int k = 0; k < OWN.length() && word < OWN_WORDS; k++) {
                char c = OWN.charAt(k);
                if (c == ' ') {
                    word++;
                    letters = 0;
                } else {
                    ownLetters[word] |= letterBits(c, letters);
                    letters++;
                }
            }
        }

        /** Cuts the text up to its end, or up to the first that may stand nowhere. */
        void cut(Tape text) {
            count = 0;
            textLength = text.length;
            scanned = 0;
            int last = END;
            boolean needsBlank = false;
            for (int k = 0; k < TAPE_MOST && scanned < textLength && last != BAD; k++) {
                int c = text.at(scanned);
                if (c == 10 || c == 32) {
                    scanned++;
                    needsBlank = false;
                } else {
                    int from = scanned;
                    last = cutOne(text, c, needsBlank);
                    keepToken(last, from);
                    needsBlank = last < FIRST_SIGN || last >= FIRST_OWN;
                }
            }
            at = -1;
            next();
        }

        private int cutOne(Tape text, int c, boolean needsBlank) {
            boolean isWord = isLetter(c);
            if (needsBlank && (isWord || isDigit(c))) {
                badPlace = scanned;
                return BAD;
            }
            if (isWord) {
                return cutWord(text);
            }
            if (isDigit(c)) {
                return cutNumber(text);
            }
            scanned++;
            return FIRST_SIGN + c;
        }

        private int cutWord(Tape text) {
            int letters = 0;
            for (int k = 0; k < NAME_MOST && isLetter(text.at(scanned)); k++) {
                letters |= letterBits(text.at(scanned), k);
                scanned++;
            }
            if (isLetter(text.at(scanned))) {
                badPlace = scanned;
                return BAD;
            }
            for (int k = 0; k < OWN_WORDS; k++) {
                if (ownLetters[k] == letters) {
                    return FIRST_OWN + k;
                }
            }
            return FIRST_NAME + letters;
        }

        private int cutNumber(Tape text) {
            int number = 0;
            for (int k = 0; k < DIGITS_MOST && isDigit(text.at(scanned)); k++) {
                number = 10 * number + text.at(scanned) - '0';
                scanned++;
            }
            if (isDigit(text.at(scanned))) {
                badPlace = scanned;
                return BAD;
            }
            return number;
        }

        private void keepToken(int token, int from) {
            if (count >= 0 && count < codes.length) {
                codes[count] = token;
                starts[count] = from;
                count++;
            }
        }

        /** Goes on to the next token; behind the last one is END. */
        void next() {
            if (at < count) {
                at++;
            }
            boolean isThere = at >= 0 && at < count && at < codes.length;
            code = isThere ? codes[at] : END;
            start = isThere ? starts[at] : textLength;
            place = code == BAD ? badPlace : start;
        }

        boolean isSign(int sign) {
            return code == FIRST_SIGN + sign;
        }

        boolean isNumber() {
            return code >= 0 && code < FIRST_SIGN;
        }

        boolean isName() {
            return code >= FIRST_NAME;
        }

        /** The letters of a NAME. */
        int letters() {
            return code - FIRST_NAME;
        }

        private static int letterBits(int c, int k) {
            return (c - 'a' + 1) << LETTER_BITS * k;
        }

        private static boolean isLetter(int c) {
            return c >= 'a' && c <= 'z';
        }

        private static boolean isDigit(int c) {
            return c >= '0' && c <= '9';
        }
    }

    /** The SUMS and the TEST of a room, as codes that work on a stack from the left on. */
    private static final class Rules {
        static final int THINS = 0;
        static final int BURSTS = 1;
        static final int HUE = 2;
        private static final int KINDS = 3;

        // A NUMBER of the text is its own code, so all other codes are below 0.
        static final int FILM = -1;
        static final int SIZE = -2;
        static final int SECOND = -3;
        static final int DRIFT = -4;
        static final int TALL = -5;
        static final int DEEDS = -6;
        static final int ADD = -7;
        static final int LESSEN = -8;
        static final int TIMES = -9;
        static final int SHARE = -10;
        static final int REST = -11;
        static final int LEAST = -12;
        static final int MOST = -13;
        static final int BELOW = -14;
        static final int ABOVE = -15;
        static final int SAME = -16;
        static final int BOTH = -17;
        static final int EITHER = -18;
        static final int NOT = -19;
        static final int CHOOSE = -20;

        private static final int QUALITIES = 6;
        private static final long RESULT_MOST = 1000000L;
        // Seven open at once, each with at most five results that wait, need 41.
        private static final int STACK = 64;

        // Each code comes from a byte of the text of its own, so all three have room here.
        private final int[] codes = new int[TAPE_MOST];
        private final int[] first = new int[KINDS];
        private final int[] behind = new int[KINDS];
        private int length = 0;
        private final int[] quality = new int[QUALITIES];
        private final int[] stack = new int[STACK];
        private int top = 0;

        void clear() {
            length = 0;
            Arrays.fill(first, NONE);
            Arrays.fill(behind, NONE);
        }

        boolean isTold(int rule) {
            return rule >= 0 && rule < KINDS && first[rule] >= 0 && behind[rule] > first[rule];
        }

        void begin(int rule) {
            if (rule >= 0 && rule < KINDS) {
                first[rule] = length;
            }
        }

        void finish(int rule) {
            if (rule >= 0 && rule < KINDS) {
                behind[rule] = length;
            }
        }

        void add(int code) {
            if (length < codes.length) {
                codes[length] = code;
                length++;
            }
        }

        void setQuality(int code, int value) {
            int k = FILM - code;
            if (k >= 0 && k < QUALITIES) {
                quality[k] = value;
            }
        }

        int result(int rule) {
            if (!isTold(rule)) {
                return 0;
            }
            top = 0;
            for (int k = first[rule]; k < behind[rule] && k < codes.length; k++) {
                int code = codes[k];
                if (code >= 0) {
                    push(code);
                } else if (code >= DEEDS) {
                    push(quality[FILM - code]);
                } else if (code == NOT) {
                    push(1 - pop());
                } else if (code == CHOOSE) {
                    int no = pop();
                    int yes = pop();
                    push(pop() != 0 ? yes : no);
                } else {
                    int right = pop();
                    push(joined(code, pop(), right));
                }
            }
            return pop();
        }

        private static int joined(int code, int left, int right) {
            switch (code) {
                case ADD:
                    return cut((long) left + right);
                case LESSEN:
                    return cut((long) left - right);
                case TIMES:
                    return cut((long) left * right);
                case SHARE:
                    return right == 0 ? 0 : cut(Math.floorDiv(left, right));
                case REST:
                    return right == 0 ? 0 : Math.floorMod(left, right);
                case LEAST:
                    return Math.min(left, right);
                case MOST:
                    return Math.max(left, right);
                case BELOW:
                    return left < right ? 1 : 0;
                case ABOVE:
                    return left > right ? 1 : 0;
                case SAME:
                    return left == right ? 1 : 0;
                case BOTH:
                    return left & right;
                case EITHER:
                    return left | right;
                default:
                    return 0;
            }
        }

        private static int cut(long result) {
            return (int) (result > RESULT_MOST ? RESULT_MOST : result < -RESULT_MOST ? -RESULT_MOST : result);
        }

        private void push(int value) {
            if (top >= 0 && top < STACK) {
                stack[top] = value;
                top++;
            }
        }

        private int pop() {
            if (top <= 0 || top > STACK) {
                return 0;
            }
            top--;
            return stack[top];
        }
    }

    /** The room as its text tells it; what changes in it is in a Scene. */
    private static final class Plan {
        private static final int[] COLUMN_STEP = {0, 1, 0, -1};
        private static final int[] ROW_STEP = {-1, 0, 1, 0};

        int statements = 0;
        int columns = 0;
        int rows = 0;
        int lamp = NONE;
        int breath = 0;
        int open = 0;
        // DOORS, HEIRS, BUBBLES: those of a sort stand EACH behind those of the one ahead.
        private final int[] count = new int[SORTS];
        private final int[] name = new int[SORTS * EACH];
        private final int[] cell = new int[SORTS * EACH];
        final int[] way = new int[EACH];
        final int[] reach = new int[EACH];
        final int[] tall = new int[EACH];
        final int[] film = new int[EACH];
        final int[] size = new int[EACH];
        final Rules rules = new Rules();

        Plan() {
            clear();
        }

        void clear() {
            statements = 0;
            columns = 0;
            rows = 0;
            lamp = NONE;
            breath = 0;
            open = 0;
            Arrays.fill(count, 0);
            rules.clear();
        }

        boolean isThere(int sort, int which) {
            return which >= 0 && which < EACH && which < many(sort);
        }

        /** How many of a sort there are: EACH at most, since no more are added. */
        int many(int sort) {
            return sort >= 0 && sort < SORTS ? count[sort] : 0;
        }

        boolean isFull(int sort) {
            return sort < 0 || sort >= SORTS || count[sort] < 0 || count[sort] >= EACH;
        }

        /** Its number; the sort has room for it. */
        int add(int sort, int itsName, int itsCell) {
            if (isFull(sort)) {
                return 0;
            }
            int which = count[sort];
            name[EACH * sort + which] = itsName;
            cell[EACH * sort + which] = itsCell;
            count[sort]++;
            return which;
        }

        int nameOf(int sort, int which) {
            return isThere(sort, which) ? name[EACH * sort + which] : NONE;
        }

        /** Where it is at first. */
        int cellOf(int sort, int which) {
            return isThere(sort, which) ? cell[EACH * sort + which] : NONE;
        }

        int withName(int sort, int itsName) {
            for (int which = 0; which < many(sort); which++) {
                if (name[EACH * sort + which] == itsName) {
                    return which;
                }
            }
            return NONE;
        }

        boolean isNamed(int itsName) {
            return withName(DOOR, itsName) != NONE || withName(HEIR, itsName) != NONE
                || withName(BUBBLE, itsName) != NONE;
        }

        boolean isTaken(int sort, int itsCell) {
            for (int which = 0; which < many(sort); which++) {
                if (cell[EACH * sort + which] == itsCell) {
                    return true;
                }
            }
            return false;
        }

        int cellAt(int column, int row) {
            boolean inside = column >= 0 && column < columns && row >= 0 && row < rows;
            return inside ? WIDE * row + column : NONE;
        }

        boolean isCell(int itsCell) {
            return itsCell >= 0 && cellAt(itsCell % WIDE, itsCell / WIDE) != NONE;
        }

        /** The CELL one on along a WAY; NONE if it is not in the room, or without a WAY. */
        int next(int itsCell, int itsWay) {
            if (itsCell < 0 || itsWay < 0 || itsWay >= WAYS) {
                return NONE;
            }
            return cellAt(itsCell % WIDE + COLUMN_STEP[itsWay], itsCell / WIDE + ROW_STEP[itsWay]);
        }
    }

    /** Reads a text into a plan, up to its first FAULT. */
    private static final class Parser {
        private static final int WRONG = 1;
        private static final int NAMED_ALREADY = 2;
        private static final int NO_SHUT_DOOR = 3;
        private static final int CANNOT_BE = 4;
        private static final int TOO_DEEP = 5;
        private static final int TOO_MANY = 6;
        private static final int STATEMENTS_MOST = 80;
        private static final int OPEN_MOST = 7;

        private final Tokens tokens = new Tokens();
        private Plan plan = new Plan();
        private int ruleRead = NONE;
        int fault = 0;
        int place = NONE;

        /** The plan that was read; the old one is written over by the next text. */
        Plan handOver(Plan old) {
            Plan read = plan;
            plan = old;
            return read;
        }

        /** Whether the text is a ROOM; the plan in use is not the one that is written here, so all stays. */
        boolean read(Tape tape) {
            fault = 0;
            place = NONE;
            plan.clear();
            tokens.cut(tape);
            boolean well = true;
            for (int k = 0; well && k < TAPE_MOST && tokens.code != Tokens.END; k++) {
                well = readStatement();
            }
            return well && (plan.statements > 0 || refuse(WRONG));
        }

        private boolean refuse(int kind) {
            fault = kind;
            place = tokens.place;
            return false;
        }

        private boolean readStatement() {
            boolean isFirst = plan.statements == 0;
            if (plan.statements >= STATEMENTS_MOST) {
                refuse(TOO_MANY);
                // The 81st counts from its first byte, even if a letter of it is one too many.
                place = tokens.start;
                return false;
            }
            if (isFirst != (tokens.code == Tokens.ROOM)) {
                return refuse(WRONG);
            }
            boolean well;
            switch (tokens.code) {
                case Tokens.ROOM:
                    well = readWalls();
                    break;
                case Tokens.LAMP:
                    well = readLamp();
                    break;
                case Tokens.A_DOOR:
                    well = readDoor();
                    break;
                case Tokens.OPEN:
                    well = readOpen();
                    break;
                case Tokens.A_HEIR:
                    well = readHeir();
                    break;
                case Tokens.A_BUBBLE:
                    well = readBubble();
                    break;
                case Tokens.THINS:
                    well = readRule(Rules.THINS);
                    break;
                case Tokens.BURSTS:
                    well = readRule(Rules.BURSTS);
                    break;
                case Tokens.HUE:
                    well = readRule(Rules.HUE);
                    break;
                case Tokens.BREATH:
                    well = readBreath();
                    break;
                default:
                    well = refuse(WRONG);
                    break;
            }
            plan.statements++;
            return well && readSign(';');
        }

        private boolean readWalls() {
            tokens.next();
            plan.columns = readNumber(3, 7);
            plan.rows = plan.columns == NONE || !readWord(Tokens.BY) ? NONE : readNumber(3, 7);
            return plan.rows != NONE;
        }

        private boolean readLamp() {
            tokens.next();
            plan.lamp = readCell(NONE);
            return plan.lamp != NONE;
        }

        private boolean readBreath() {
            tokens.next();
            plan.breath = readNumber(0, HUNDRED);
            return plan.breath != NONE;
        }

        private boolean readDoor() {
            if (plan.isFull(DOOR)) {
                return refuse(TOO_MANY);
            }
            tokens.next();
            int name = readNewName();
            int cell = name == NONE || !readWord(Tokens.AT) ? NONE : readCell(NONE);
            int way = cell == NONE ? NONE : readNumberBehind(Tokens.BLOWS, 0, WAYS - 1);
            int reach = way == NONE ? NONE : readNumberBehind(Tokens.REACH, 1, 6);
            if (reach == NONE) {
                return false;
            }
            int door = plan.add(DOOR, name, cell);
            plan.way[door] = way;
            plan.reach[door] = reach;
            return true;
        }

        private boolean readOpen() {
            tokens.next();
            if (!tokens.isName()) {
                return refuse(WRONG);
            }
            int door = plan.withName(DOOR, tokens.letters());
            if (door == NONE || (plan.open >> door & 1) == 1) {
                return refuse(NO_SHUT_DOOR);
            }
            plan.open |= 1 << door;
            tokens.next();
            return true;
        }

        private boolean readHeir() {
            if (plan.isFull(HEIR)) {
                return refuse(TOO_MANY);
            }
            tokens.next();
            int name = readNewName();
            int cell = name == NONE || !readWord(Tokens.AT) ? NONE : readCell(HEIR);
            int tall = cell == NONE ? NONE : readNumberBehind(Tokens.TALL, 0, 9);
            if (tall == NONE) {
                return false;
            }
            plan.tall[plan.add(HEIR, name, cell)] = tall;
            return true;
        }

        private boolean readBubble() {
            if (plan.isFull(BUBBLE)) {
                return refuse(TOO_MANY);
            }
            tokens.next();
            int name = readNewName();
            int cell = name == NONE || !readWord(Tokens.AT) ? NONE : readCell(BUBBLE);
            int film = cell == NONE ? NONE : readNumberBehind(Tokens.FILM, 1, FILM_MOST);
            int size = film == NONE ? NONE : readNumberBehind(Tokens.SIZE, 1, SIZE_MOST);
            if (size == NONE) {
                return false;
            }
            int bubble = plan.add(BUBBLE, name, cell);
            plan.film[bubble] = film;
            plan.size[bubble] = size;
            return true;
        }

        private boolean readRule(int rule) {
            if (plan.rules.isTold(rule)) {
                return refuse(TOO_MANY);
            }
            tokens.next();
            ruleRead = rule;
            plan.rules.begin(rule);
            boolean well = rule == Rules.BURSTS ? readTest(0) : readSum(0);
            plan.rules.finish(rule);
            return well;
        }

        private boolean readSign(int sign) {
            if (!tokens.isSign(sign)) {
                return refuse(WRONG);
            }
            tokens.next();
            return true;
        }

        private boolean readWord(int own) {
            if (tokens.code != own) {
                return refuse(WRONG);
            }
            tokens.next();
            return true;
        }

        private int readNewName() {
            boolean isName = tokens.isName();
            int name = tokens.letters();
            boolean isOld = isName && plan.isNamed(name);
            if (!isName || isOld) {
                refuse(isOld ? NAMED_ALREADY : WRONG);
                return NONE;
            }
            tokens.next();
            return name;
        }

        /** The NUMBER that stands here, without going on; NONE if none may. */
        private int numberHere(int least, int most) {
            boolean isNumber = tokens.isNumber();
            if (!isNumber || tokens.code < least || tokens.code > most) {
                refuse(isNumber ? CANNOT_BE : WRONG);
                return NONE;
            }
            return tokens.code;
        }

        private int readNumber(int least, int most) {
            int number = numberHere(least, most);
            if (number != NONE) {
                tokens.next();
            }
            return number;
        }

        private int readNumberBehind(int own, int least, int most) {
            return readWord(own) ? readNumber(least, most) : NONE;
        }

        /** A CELL in which none of the sort is (sort NONE: any CELL). */
        private int readCell(int sort) {
            int column = readNumber(0, plan.columns - 1);
            int row = column == NONE ? NONE : numberHere(0, plan.rows - 1);
            if (row == NONE) {
                return NONE;
            }
            int cell = plan.cellAt(column, row);
            if (plan.isTaken(sort, cell)) {
                refuse(CANNOT_BE);
                return NONE;
            }
            tokens.next();
            return cell;
        }

        private boolean readSum(int open) {
            boolean well = readProduct(open);
            for (int k = 0; well && k < TAPE_MOST && sumCode() != 0; k++) {
                int code = sumCode();
                tokens.next();
                well = readProduct(open);
                plan.rules.add(code);
            }
            return well;
        }

        private int sumCode() {
            return tokens.isSign('+') ? Rules.ADD : tokens.isSign('-') ? Rules.LESSEN : 0;
        }

        private boolean readProduct(int open) {
            boolean well = readPart(open);
            for (int k = 0; well && k < TAPE_MOST && productCode() != 0; k++) {
                int code = productCode();
                tokens.next();
                well = readPart(open);
                plan.rules.add(code);
            }
            return well;
        }

        private int productCode() {
            if (tokens.isSign('*')) {
                return Rules.TIMES;
            }
            return tokens.isSign('/') ? Rules.SHARE : tokens.isSign('%') ? Rules.REST : 0;
        }

        private boolean readPart(int open) {
            if (tokens.isNumber()) {
                plan.rules.add(tokens.code);
                tokens.next();
                return true;
            }
            if (tokens.isSign('(')) {
                return readOpening('(', open) && readSum(open + 1) && readSign(')');
            }
            switch (tokens.code) {
                case Tokens.MIN:
                    return readPair(Rules.LEAST, open);
                case Tokens.MAX:
                    return readPair(Rules.MOST, open);
                case Tokens.IF:
                    return readChoice(open);
                default:
                    return readQuality();
            }
        }

        private boolean readOpening(int sign, int open) {
            if (tokens.isSign(sign) && open >= OPEN_MOST) {
                return refuse(TOO_DEEP);
            }
            return readSign(sign);
        }

        private boolean readPair(int code, int open) {
            tokens.next();
            boolean well = readOpening('(', open) && readSum(open + 1) && readSign(',')
                && readSum(open + 1) && readSign(')');
            plan.rules.add(code);
            return well;
        }

        private boolean readChoice(int open) {
            tokens.next();
            boolean well = readOpening('(', open) && readTest(open + 1) && readSign(',')
                && readSum(open + 1) && readSign(',') && readSum(open + 1) && readSign(')');
            plan.rules.add(Rules.CHOOSE);
            return well;
        }

        private boolean readQuality() {
            int code = qualityCode();
            if (code == 0) {
                return refuse(WRONG);
            }
            plan.rules.add(code);
            tokens.next();
            return true;
        }

        private int qualityCode() {
            switch (tokens.code) {
                case Tokens.FILM:
                    return Rules.FILM;
                case Tokens.SIZE:
                    return Rules.SIZE;
                case Tokens.SECOND:
                    return Rules.SECOND;
                case Tokens.DRIFT:
                    return ruleRead == Rules.THINS ? Rules.DRIFT : 0;
                case Tokens.TALL:
                    return ruleRead == Rules.BURSTS ? Rules.TALL : 0;
                case Tokens.DEEDS:
                    return ruleRead == Rules.HUE ? Rules.DEEDS : 0;
                default:
                    return 0;
            }
        }

        private boolean readTest(int open) {
            boolean well = readBoth(open);
            for (int k = 0; well && k < TAPE_MOST && tokens.code == Tokens.OR; k++) {
                tokens.next();
                well = readBoth(open);
                plan.rules.add(Rules.EITHER);
            }
            return well;
        }

        private boolean readBoth(int open) {
            boolean well = readFact(open);
            for (int k = 0; well && k < TAPE_MOST && tokens.code == Tokens.AND; k++) {
                tokens.next();
                well = readFact(open);
                plan.rules.add(Rules.BOTH);
            }
            return well;
        }

        private boolean readFact(int open) {
            if (tokens.isSign('[')) {
                return readOpening('[', open) && readTest(open + 1) && readSign(']');
            }
            if (tokens.code == Tokens.NOT) {
                return readNot(open);
            }
            if (tokens.code == Tokens.ALL) {
                plan.rules.add(1);
                tokens.next();
                return true;
            }
            return readSum(open) && readCompared(open);
        }

        private boolean readNot(int open) {
            if (open >= OPEN_MOST) {
                return refuse(TOO_DEEP);
            }
            tokens.next();
            boolean well = readFact(open + 1);
            plan.rules.add(Rules.NOT);
            return well;
        }

        private boolean readCompared(int open) {
            int code = tokens.isSign('<') ? Rules.BELOW : tokens.isSign('>') ? Rules.ABOVE : Rules.SAME;
            if (code == Rules.SAME && !tokens.isSign('=')) {
                return refuse(WRONG);
            }
            tokens.next();
            boolean well = readSum(open);
            plan.rules.add(code);
            return well;
        }
    }

    /** All that changes in a room. */
    private static final class Scene {
        static final int KEPT_PARTS = 4;

        int second = 0;
        int lamp = NONE;
        int open = 0;
        final int[] heirCell = new int[EACH];
        // NONE: the BUBBLE is GONE.
        final int[] bubbleCell = new int[EACH];
        final int[] film = new int[EACH];
        final int[] size = new int[EACH];
        final int[] deeds = new int[EACH];
        final int[] owner = new int[EACH];
        final int[] rent = new int[EACH];
        // Each BUBBLE bursts once at most until a new room or image comes, so EACH rows hold
        // all, and the 40 beyond which KEPT rows would not be told are never reached.
        final int[] keptRows = new int[EACH * KEPT_PARTS];
        int keptCount = 0;

        void begin(Plan plan) {
            second = 0;
            lamp = plan.lamp;
            open = plan.open;
            keptCount = 0;
            for (int k = 0; k < EACH; k++) {
                boolean floats = plan.isThere(BUBBLE, k);
                heirCell[k] = plan.cellOf(HEIR, k);
                bubbleCell[k] = plan.cellOf(BUBBLE, k);
                film[k] = floats ? plan.film[k] : 0;
                size[k] = floats ? plan.size[k] : 0;
                deeds[k] = floats ? 1 << k : 0;
                owner[k] = NONE;
                rent[k] = 0;
            }
        }

        void copy(Scene other) {
            second = other.second;
            lamp = other.lamp;
            open = other.open;
            keptCount = other.keptCount;
            System.arraycopy(other.heirCell, 0, heirCell, 0, EACH);
            System.arraycopy(other.bubbleCell, 0, bubbleCell, 0, EACH);
            System.arraycopy(other.film, 0, film, 0, EACH);
            System.arraycopy(other.size, 0, size, 0, EACH);
            System.arraycopy(other.deeds, 0, deeds, 0, EACH);
            System.arraycopy(other.owner, 0, owner, 0, EACH);
            System.arraycopy(other.rent, 0, rent, 0, EACH);
            System.arraycopy(other.keptRows, 0, keptRows, 0, keptRows.length);
        }

        int floating() {
            int floating = 0;
            for (int k = 0; k < EACH; k++) {
                floating += bubbleCell[k] == NONE ? 0 : 1;
            }
            return floating;
        }

        int heirIn(int cell) {
            for (int heir = 0; heir < EACH; heir++) {
                if (heirCell[heir] == cell && cell != NONE) {
                    return heir;
                }
            }
            return NONE;
        }

        int bubbleWith(int deed) {
            for (int bubble = 0; bubble < EACH; bubble++) {
                if ((deeds[bubble] >> deed & 1) == 1) {
                    return bubble;
                }
            }
            return NONE;
        }

        int deedsOwnedBy(int heir) {
            int owned = 0;
            for (int deed = 0; deed < EACH; deed++) {
                owned += owner[deed] == heir ? 1 : 0;
            }
            return owned;
        }

        int rentOwnedBy(int heir) {
            int owned = 0;
            for (int deed = 0; deed < EACH; deed++) {
                owned += owner[deed] == heir ? rent[deed] : 0;
            }
            return owned;
        }

        int rentOfAll() {
            int all = 0;
            for (int deed = 0; deed < EACH; deed++) {
                all += rent[deed];
            }
            return all;
        }

        /** The other one is GONE into the first. */
        void joinTwo(int bubble, int other) {
            if (isSlot(bubble) && isSlot(other)) {
                film[bubble] = Math.max(film[bubble], film[other]);
                size[bubble] = Math.min(SIZE_MOST, size[bubble] + size[other]);
                deeds[bubble] |= deeds[other];
                clearBubble(other);
            }
        }

        void burst(int bubble, int heir) {
            if (isSlot(bubble)) {
                int howMany = Integer.bitCount(deeds[bubble]);
                for (int deed = 0; deed < EACH; deed++) {
                    if ((deeds[bubble] >> deed & 1) == 1) {
                        owner[deed] = heir;
                    }
                }
                clearBubble(bubble);
                keep(bubble, heir, howMany);
            }
        }

        void addRent(int bubble, int more) {
            for (int deed = 0; deed < EACH && isSlot(bubble); deed++) {
                if ((deeds[bubble] >> deed & 1) == 1) {
                    rent[deed] = Math.min(RENT_MOST, rent[deed] + more);
                }
            }
        }

        private static boolean isSlot(int which) {
            return which >= 0 && which < EACH;
        }

        private void clearBubble(int bubble) {
            bubbleCell[bubble] = NONE;
            film[bubble] = 0;
            size[bubble] = 0;
            deeds[bubble] = 0;
        }

        private void keep(int bubble, int heir, int howMany) {
            if (isSlot(keptCount)) {
                int row = KEPT_PARTS * keptCount;
                keptRows[row] = second;
                keptRows[row + 1] = bubble;
                keptRows[row + 2] = heir;
                keptRows[row + 3] = howMany;
                keptCount++;
            }
        }
    }

    /** How a SECOND goes. */
    private static final class Works {
        private final int[] wind = new int[CELLS];
        private final int[] drifted = new int[EACH];

        /** DRAUGHTS change by DOORS alone, so they are looked up once for many SECONDS. */
        void prepare(Plan plan, Scene scene) {
            Arrays.fill(wind, NONE);
            for (int door = 0; door < plan.many(DOOR); door++) {
                if ((scene.open >> door & 1) == 1) {
                    blow(plan, door);
                }
            }
        }

        private void blow(Plan plan, int door) {
            int cell = plan.cellOf(DOOR, door);
            for (int k = 0; k <= plan.reach[door] && cell >= 0 && cell < CELLS; k++) {
                if (wind[cell] == NONE) {
                    wind[cell] = plan.way[door];
                }
                cell = plan.next(cell, plan.way[door]);
            }
        }

        int windIn(int cell) {
            return cell >= 0 && cell < CELLS ? wind[cell] : NONE;
        }

        /** How many BURST; breath is the WAY of a breath, NONE without one. */
        int pass(Plan plan, Scene scene, int breath) {
            int burst = 0;
            driftAll(plan, scene, breath);
            joinAll(scene);
            for (int bubble = 0; bubble < EACH; bubble++) {
                if (scene.bubbleCell[bubble] != NONE) {
                    burst += thinOne(plan, scene, bubble) ? 1 : 0;
                }
            }
            scene.second = Math.min(LAST_SECOND, scene.second + 1);
            return burst;
        }

        private void driftAll(Plan plan, Scene scene, int breath) {
            for (int bubble = 0; bubble < EACH; bubble++) {
                int cell = scene.bubbleCell[bubble];
                int way = windIn(cell);
                int next = plan.next(cell, way == NONE ? breath : way);
                drifted[bubble] = next == NONE ? 0 : 1;
                if (next != NONE) {
                    scene.bubbleCell[bubble] = next;
                }
            }
        }

        private void joinAll(Scene scene) {
            for (int bubble = 0; bubble < EACH; bubble++) {
                int cell = scene.bubbleCell[bubble];
                for (int other = bubble + 1; other < EACH && cell != NONE; other++) {
                    if (scene.bubbleCell[other] == cell) {
                        scene.joinTwo(bubble, other);
                    }
                }
            }
        }

        /** Whether it BURSTS. */
        private boolean thinOne(Plan plan, Scene scene, int bubble) {
            Rules rules = plan.rules;
            rules.setQuality(Rules.FILM, scene.film[bubble]);
            rules.setQuality(Rules.SIZE, scene.size[bubble]);
            rules.setQuality(Rules.SECOND, scene.second);
            rules.setQuality(Rules.DRIFT, drifted[bubble]);
            int less = rules.isTold(Rules.THINS) ? rules.result(Rules.THINS) : 1;
            int film = Math.max(0, Math.min(FILM_MOST, scene.film[bubble] - less));
            scene.film[bubble] = film;
            // From here on the film is the thinned one, for the TEST of bursts and for hue.
            rules.setQuality(Rules.FILM, film);
            int heir = scene.heirIn(scene.bubbleCell[bubble]);
            rules.setQuality(Rules.TALL, plan.isThere(HEIR, heir) ? plan.tall[heir] : 0);
            if (film == 0 || rules.result(Rules.BURSTS) != 0) {
                scene.burst(bubble, heir);
                return true;
            }
            if (scene.bubbleCell[bubble] == scene.lamp) {
                rules.setQuality(Rules.DEEDS, Integer.bitCount(scene.deeds[bubble]));
                int hue = rules.isTold(Rules.HUE) ? rules.result(Rules.HUE) : film / 10;
                scene.addRent(bubble, Math.max(0, Math.min(HUE_MOST, hue)));
            }
            return false;
        }
    }

    /** What comes AHEAD, tried on a scene of its own; and FELT, by which a BUBBLE's CELL is sought. */
    private static final class Seer {
        private static final int FELT_MOST = 16;
        private static final int FELT_PARTS = 4;
        private static final int FELT_SECONDS = 30;
        // For each number of SECONDS a count for each CELL, and one for GONE.
        private static final int GROUPS = CELLS + 1;

        private final Works works = new Works();
        private final Scene trial = new Scene();
        private final int[] felt = new int[FELT_MOST * FELT_PARTS];
        private final int[] path = new int[FELT_SECONDS + 1];
        private final int[] groups = new int[(FELT_SECONDS + 1) * GROUPS];
        private final int[] fromCell = new int[CELLS];
        int fromCount = 0;
        int feltCount = 0;
        int bestCell = NONE;
        int bestWorth = NONE;
        int tellingSecond = NONE;
        int tellingLeft = NONE;

        private void start(Plan plan, Scene now) {
            trial.copy(now);
            works.prepare(plan, trial);
        }

        private void run(Plan plan, int n) {
            for (int k = 0; k < n; k++) {
                works.pass(plan, trial, NONE);
            }
        }

        Scene after(Plan plan, Scene now, int n) {
            start(plan, now);
            run(plan, n);
            return trial;
        }

        int secondOfGoing(Plan plan, Scene now, int bubble) {
            int last = Math.min(RUN_MOST, LAST_SECOND - now.second);
            start(plan, now);
            for (int k = 0; k < last && plan.isThere(BUBBLE, bubble); k++) {
                works.pass(plan, trial, NONE);
                if (trial.bubbleCell[bubble] == NONE) {
                    return k;
                }
            }
            return NONE;
        }

        int fewestDoors(Plan plan, Scene now, int deed, int heir, int n) {
            int best = NONE;
            int sets = plan.isThere(BUBBLE, deed) ? 1 << plan.many(DOOR) : 0;
            for (int set = 0; set < sets; set++) {
                if (best != NONE && Integer.bitCount(set) >= Integer.bitCount(best)) {
                    continue;
                }
                trial.copy(now);
                trial.open ^= set;
                works.prepare(plan, trial);
                run(plan, n);
                if (trial.owner[deed] == heir) {
                    best = set;
                }
            }
            return best;
        }

        void findStand(Plan plan, Scene now, int heir, int n) {
            forgetBest();
            start(plan, now);
            for (int cell = 0; cell < CELLS && plan.isThere(HEIR, heir); cell++) {
                boolean isFree = now.heirCell[heir] == cell || now.heirIn(cell) == NONE;
                if (plan.isCell(cell) && isFree) {
                    trial.copy(now);
                    trial.heirCell[heir] = cell;
                    run(plan, n);
                    compare(cell, trial.deedsOwnedBy(heir));
                }
            }
        }

        void findShine(Plan plan, Scene now, int n) {
            forgetBest();
            start(plan, now);
            for (int cell = 0; cell < CELLS; cell++) {
                if (plan.isCell(cell)) {
                    trial.copy(now);
                    trial.lamp = cell;
                    run(plan, n);
                    compare(cell, trial.rentOfAll());
                }
            }
        }

        private void forgetBest() {
            bestCell = NONE;
            bestWorth = NONE;
        }

        private void compare(int cell, int worth) {
            if (worth > bestWorth) {
                bestCell = cell;
                bestWorth = worth;
            }
        }

        int leastFilm(Plan plan, Scene now, int bubble, int n) {
            start(plan, now);
            for (int film = 1; film <= FILM_MOST && plan.isThere(BUBBLE, bubble); film++) {
                trial.copy(now);
                trial.film[bubble] = film;
                // Most films are soon GONE: no need to go on then.
                for (int k = 0; k < n && trial.bubbleCell[bubble] != NONE; k++) {
                    works.pass(plan, trial, NONE);
                }
                if (trial.bubbleCell[bubble] != NONE) {
                    return film;
                }
            }
            return NONE;
        }

        int rowsToOwn(Plan plan, Scene now, int deed, int heir) {
            start(plan, now);
            boolean owns = ownsBehindNext(plan, now, deed, heir, NONE);
            int rows = owns ? WAYS * (HUNDRED - plan.breath) : 0;
            for (int way = 0; way < WAYS; way++) {
                rows += ownsBehindNext(plan, now, deed, heir, way) ? plan.breath : 0;
            }
            return rows;
        }

        private boolean ownsBehindNext(Plan plan, Scene now, int deed, int heir, int breath) {
            trial.copy(now);
            works.pass(plan, trial, breath);
            return plan.isThere(BUBBLE, deed) && trial.owner[deed] == heir;
        }

        void forget() {
            feltCount = 0;
        }

        /** False, and FELT stays, if the tape is none such. */
        boolean takeFelt(Tape tape, Plan plan) {
            int rows = tape.length / FELT_PARTS;
            if (rows < 1 || rows > FELT_MOST || tape.length % FELT_PARTS != 0) {
                return false;
            }
            for (int row = 0; row < rows; row++) {
                if (!canBeFelt(tape, FELT_PARTS * row, plan)) {
                    return false;
                }
            }
            for (int k = 0; k < FELT_PARTS * rows && k < felt.length; k++) {
                felt[k] = tape.at(k);
            }
            feltCount = rows;
            return true;
        }

        private static boolean canBeFelt(Tape tape, int k, Plan plan) {
            int column = tape.at(k + 2);
            int row = tape.at(k + 3);
            boolean isGone = column == OUTSIDE && row == OUTSIDE;
            return tape.at(k) <= FELT_SECONDS && plan.isThere(BUBBLE, tape.at(k + 1))
                && (isGone || plan.cellAt(column, row) != NONE);
        }

        void findFrom(Plan plan, Scene now, int bubble) {
            int last = lastFelt();
            fromCount = 0;
            start(plan, now);
            for (int cell = 0; cell < CELLS; cell++) {
                boolean isFrom = plan.isCell(cell) && follow(plan, now, bubble, cell, last);
                if (isFrom && fromCount < fromCell.length) {
                    fromCell[fromCount] = cell;
                    fromCount++;
                }
            }
        }

        int fromAt(int k) {
            return k >= 0 && k < fromCount && k < fromCell.length ? fromCell[k] : NONE;
        }

        private int lastFelt() {
            int last = 0;
            for (int row = 0; row < feltCount && row < FELT_MOST; row++) {
                last = Math.max(last, felt[FELT_PARTS * row]);
            }
            return last;
        }

        /** Whether all FELT is so with the BUBBLE put in that CELL; path has its CELLS up to the last SECOND. */
        private boolean follow(Plan plan, Scene now, int bubble, int cell, int last) {
            int needed = lastFelt();
            if (!plan.isThere(BUBBLE, bubble) || now.second + needed > LAST_SECOND) {
                return false;
            }
            trial.copy(now);
            trial.bubbleCell[bubble] = cell;
            for (int n = 0; n <= last && n < path.length; n++) {
                // What is GONE stays GONE, so behind the last FELT row nothing more is to be tried.
                boolean isOver = n > needed && trial.bubbleCell[bubble] == NONE;
                if (n > 0 && !isOver) {
                    works.pass(plan, trial, NONE);
                }
                if (!isAsFelt(plan, n)) {
                    return false;
                }
                path[n] = trial.bubbleCell[bubble];
            }
            return true;
        }

        private boolean isAsFelt(Plan plan, int n) {
            for (int row = 0; row < feltCount && row < FELT_MOST; row++) {
                int k = FELT_PARTS * row;
                int bubble = felt[k + 1];
                int cell = plan.cellAt(felt[k + 2], felt[k + 3]);
                if (felt[k] == n && plan.isThere(BUBBLE, bubble) && trial.bubbleCell[bubble] != cell) {
                    return false;
                }
            }
            return true;
        }

        /** False without any CELL left, or when no SECOND comes. */
        boolean findTelling(Plan plan, Scene now, int bubble) {
            int last = Math.min(FELT_SECONDS, LAST_SECOND - now.second);
            int left = 0;
            Arrays.fill(groups, 0);
            start(plan, now);
            for (int cell = 0; cell < CELLS; cell++) {
                if (plan.isCell(cell) && follow(plan, now, bubble, cell, last)) {
                    left++;
                    countPath(last);
                }
            }
            tellingSecond = NONE;
            tellingLeft = left + 1;
            for (int n = 1; n <= last && left > 0; n++) {
                int most = largestGroup(n);
                if (most < tellingLeft) {
                    tellingSecond = n;
                    tellingLeft = most;
                }
            }
            return tellingSecond != NONE;
        }

        private void countPath(int last) {
            for (int n = 1; n <= last && n < path.length; n++) {
                int group = path[n] == NONE ? CELLS : path[n];
                if (group >= 0 && group < GROUPS) {
                    groups[GROUPS * n + group]++;
                }
            }
        }

        private int largestGroup(int n) {
            int most = 0;
            for (int k = GROUPS * n; k < GROUPS * (n + 1) && k >= 0 && k < groups.length; k++) {
                most = Math.max(most, groups[k]);
            }
            return most;
        }
    }

    /** The scenes ahead of the last ACTS, in a ring. */
    private static final class History {
        private static final int ACTS_MOST = 20;

        private final Scene[] scenes = new Scene[ACTS_MOST];
        private int first = 0;
        int count = 0;

        History() {
            for (int k = 0; k < ACTS_MOST; k++) {
                scenes[k] = new Scene();
            }
        }

        void clear() {
            first = 0;
            count = 0;
        }

        void push(Scene scene) {
            if (count == ACTS_MOST) {
                first = (first + 1) % ACTS_MOST;
                count--;
            }
            copyScene(scene, scenes[(first + count) % ACTS_MOST]);
            count++;
        }

        /** False when there is none. */
        boolean pop(Scene into) {
            if (count <= 0) {
                return false;
            }
            count--;
            copyScene(scenes[(first + count) % ACTS_MOST], into);
            return true;
        }

        private static void copyScene(Scene scene, Scene into) {
            if (scene != null && into != null) {
                into.copy(scene);
            }
        }
    }

    /** IMAGES written, and read into a scene of their own. */
    private static final class Images {
        private static final int BYTES_MOST = 5 + EACH + 2 * EACH + 5 * EACH + 3 * EACH;

        final int[] bytes = new int[BYTES_MOST];
        int length = 0;
        final Scene told = new Scene();
        private int at = 0;

        int write(Plan plan, Scene scene) {
            length = 0;
            putTwo(scene.second);
            putCell(scene.lamp);
            for (int door = 0; door < plan.many(DOOR); door++) {
                put(scene.open >> door & 1);
            }
            for (int heir = 0; heir < plan.many(HEIR); heir++) {
                putCell(scene.heirCell[heir]);
            }
            for (int bubble = 0; bubble < plan.many(BUBBLE); bubble++) {
                putCell(scene.bubbleCell[bubble]);
                put(scene.film[bubble]);
                put(scene.size[bubble]);
                put(scene.deeds[bubble]);
            }
            for (int deed = 0; deed < plan.many(BUBBLE); deed++) {
                put(scene.owner[deed] == NONE ? OUTSIDE : scene.owner[deed]);
                putTwo(scene.rent[deed]);
            }
            int check = 197;
            for (int k = 0; k < length && k < bytes.length; k++) {
                check = checkOn(check, bytes[k]);
            }
            put(check);
            return length;
        }

        private static int checkOn(int check, int octet) {
            return (5 * check + octet) % 251;
        }

        private void put(int octet) {
            if (length >= 0 && length < bytes.length) {
                bytes[length] = octet;
                length++;
            }
        }

        private void putTwo(int number) {
            put(number / 256);
            put(number % 256);
        }

        private void putCell(int cell) {
            put(cell == NONE ? OUTSIDE : cell % WIDE);
            put(cell == NONE ? OUTSIDE : cell / WIDE);
        }

        /** Whether the tape is AN IMAGE of the room; if so, told is as it tells. */
        boolean read(Tape tape, Plan plan) {
            at = 0;
            told.begin(plan);
            return isChecked(tape, plan) && readTimeAndLamp(tape, plan) && readDoors(tape, plan)
                && readHeirs(tape, plan) && readBubbles(tape, plan) && readDeeds(tape, plan);
        }

        private boolean isChecked(Tape tape, Plan plan) {
            int due = 5 + plan.many(DOOR) + 2 * plan.many(HEIR) + 8 * plan.many(BUBBLE);
            if (tape.length != due) {
                return false;
            }
            int check = 197;
            for (int k = 0; k < due - 1; k++) {
                check = checkOn(check, tape.at(k));
            }
            return check == tape.at(due - 1);
        }

        private int take(Tape tape) {
            at++;
            return tape.at(at - 1);
        }

        private int takeTwo(Tape tape) {
            int high = take(tape);
            return 256 * high + take(tape);
        }

        private boolean readTimeAndLamp(Tape tape, Plan plan) {
            told.second = takeTwo(tape);
            int column = take(tape);
            int row = take(tape);
            told.lamp = plan.cellAt(column, row);
            return told.second <= LAST_SECOND && (told.lamp != NONE || isOutside(column, row));
        }

        private static boolean isOutside(int column, int row) {
            return column == OUTSIDE && row == OUTSIDE;
        }

        private boolean readDoors(Tape tape, Plan plan) {
            told.open = 0;
            for (int door = 0; door < plan.many(DOOR); door++) {
                int flag = take(tape);
                if (flag < 0 || flag > 1) {
                    return false;
                }
                told.open |= flag << door;
            }
            return true;
        }

        private boolean readHeirs(Tape tape, Plan plan) {
            Arrays.fill(told.heirCell, NONE);
            for (int heir = 0; heir < plan.many(HEIR); heir++) {
                int column = take(tape);
                int cell = plan.cellAt(column, take(tape));
                if (cell == NONE || told.heirIn(cell) != NONE) {
                    return false;
                }
                told.heirCell[heir] = cell;
            }
            return true;
        }

        private boolean readBubbles(Tape tape, Plan plan) {
            int deedsSeen = 0;
            int allDeeds = (1 << plan.many(BUBBLE)) - 1;
            Arrays.fill(told.bubbleCell, NONE);
            for (int bubble = 0; bubble < plan.many(BUBBLE); bubble++) {
                int column = take(tape);
                int row = take(tape);
                int cell = plan.cellAt(column, row);
                boolean free = cell == NONE ? isOutside(column, row) : !isBubbleIn(cell);
                told.film[bubble] = take(tape);
                told.size[bubble] = take(tape);
                int deeds = take(tape);
                if (!free || (deeds & ~allDeeds) != 0 || (deeds & deedsSeen) != 0) {
                    return false;
                }
                told.bubbleCell[bubble] = cell;
                told.deeds[bubble] = deeds;
                deedsSeen |= deeds;
                if (!canBeBubble(bubble)) {
                    return false;
                }
            }
            return true;
        }

        private boolean isBubbleIn(int cell) {
            for (int bubble = 0; bubble < EACH; bubble++) {
                if (told.bubbleCell[bubble] == cell) {
                    return true;
                }
            }
            return false;
        }

        private boolean canBeBubble(int bubble) {
            int film = told.film[bubble];
            int size = told.size[bubble];
            int deeds = told.deeds[bubble];
            if (told.bubbleCell[bubble] == NONE) {
                return film == 0 && size == 0 && deeds == 0;
            }
            return film >= 1 && film <= FILM_MOST && size >= 1 && size <= SIZE_MOST && deeds != 0;
        }

        private boolean readDeeds(Tape tape, Plan plan) {
            for (int deed = 0; deed < plan.many(BUBBLE); deed++) {
                int heir = take(tape);
                boolean nobody = heir == OUTSIDE;
                boolean somebody = plan.isThere(HEIR, heir) && told.bubbleWith(deed) == NONE;
                told.owner[deed] = nobody ? NONE : heir;
                told.rent[deed] = takeTwo(tape);
                if (!nobody && !somebody || told.rent[deed] > RENT_MOST) {
                    return false;
                }
            }
            return true;
        }
    }
}
