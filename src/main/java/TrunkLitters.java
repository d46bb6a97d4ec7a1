/**
 * Trunks in rooms, and what comes of two of them. The words in capitals and the numbered promises are those of
 * DOC.md; the Java kept to is that of LANGUAGE.md.
 */
public final class TrunkLitters {
    /** There is none. */
    public static final int NONE = -1;

    private static final int NO_TRUNK = -2;
    private static final int NO_NUMBER = -2;
    private static final int NOT_THE_SAME = -2;
    private static final int NO_BROOD = -1000000000;

    private static final int PLACES = 8;
    private static final int SETS = 1 << PLACES;
    private static final int MOST_ROOMS = 4;
    private static final int MOST_TOLD = 6;
    private static final int MARK_COUNT = 6;
    private static final int MARK_SETS = 1 << MARK_COUNT;
    private static final int MOST_BULK = 20;
    private static final int MOST_TALES_TOLD = 9;
    private static final int MOST_PINES = 9;
    private static final int MOST_YEARS = 999;
    private static final int MOST_AHEAD = 30;
    private static final int YEARS_OF_BEST = 5;
    private static final int SEEDS = 1000;
    private static final int MOST_ACTS = 40;
    private static final int BOX_COUNT = 3;
    private static final int MOST_HELD = 30;
    private static final int MOST_LATER = 1000;
    private static final int MOST_TIME = 100000;
    private static final int TAPE_MOST = 1600;
    private static final int FEED_BYTES = 20;
    private static final int MOST_UNITS = 30;
    private static final int MOST_WITHIN = 6;
    // 30 units, 29 signs between them, and not more than seven nots before each unit
    private static final int MOST_STEPS = 300;

    // The kinds of TOKENS; the first ones are the words that stand for themselves, in the order of WORDS.
    private static final String WORDS =
        "room holds trunk bulk at marks told brood pines tales draw or and not alike left many year ";
    private static final int WORD_COUNT = 18;
    private static final int ROOM = 0;
    private static final int HOLDS = 1;
    private static final int TRUNK = 2;
    private static final int BULK = 3;
    private static final int AT = 4;
    private static final int MARKS = 5;
    private static final int TOLD = 6;
    private static final int BROOD = 7;
    private static final int PINES = 8;
    private static final int TALES = 9;
    private static final int DRAW = 10;
    private static final int OR = 11;
    private static final int AND = 12;
    private static final int NOT = 13;
    private static final int ALIKE = 14;
    private static final int LEFT = 15;
    private static final int MANY = 16;
    private static final int YEAR = 17;
    private static final int SEMICOLON = 18;
    private static final int OPEN = 19;
    private static final int CLOSE = 20;
    private static final int LESS = 21;
    private static final int MORE = 22;
    private static final int SAME = 23;
    private static final int PLUS = 24;
    private static final int MINUS = 25;
    private static final int TIMES = 26;
    private static final int OVER = 27;
    private static final int REST = 28;
    private static final int NUMBER = 29;
    private static final int NAME = 30;
    private static final int END = 31;
    private static final int BAD = 32;

    private static final int FAULT_NO_TOKEN = 1;
    private static final int FAULT_CANNOT_STAND = 2;
    private static final int FAULT_TOLD_OR_FULL = 3;
    private static final int FAULT_NUMBER = 4;
    private static final int FAULT_NO_ROOM = 5;

    private final Tape tape = new Tape();
    private final Plan plan = new Plan();
    private final Reader reader = new Reader(tape);
    private final State now = new State(plan);
    private final Years years = new Years(plan);
    private final Acts acts = new Acts(plan);
    private final Boxes boxes = new Boxes(plan);
    private final Stowing stowing = new Stowing(plan);
    private final Memory memory = new Memory(plan);
    private final int[] lying = new int[PLACES];
    private int lyingCount = 0;

    public TrunkLitters() {
    }

    // ---- the text ----

    public int feed(int a, int b, int c, int d, int e) {
        if (tape.length > TAPE_MOST - FEED_BYTES) {
            return NONE;
        }
        tape.put(a);
        tape.put(b);
        tape.put(c);
        tape.put(d);
        tape.put(e);
        return tape.length;
    }

    public int end(int n) {
        if (n < 0 || n > tape.length) {
            return NONE;
        }
        tape.length = n;
        return n;
    }

    public int house() {
        boolean told = reader.readAll();
        tape.length = 0;
        if (!told) {
            return NONE;
        }
        plan.copyFrom(reader.draft);
        now.standAsTold();
        acts.begin(now);
        boxes.clear();
        memory.count = 0;
        lyingCount = 0;
        return plan.trunks;
    }

    public int fault(int what) {
        if (what == 0) {
            return reader.faultCode;
        }
        return what == 1 ? reader.faultPlace : NONE;
    }

    // ---- what is now ----

    public int room(int room, int what) {
        if (!plan.hasRoom(room)) {
            return NONE;
        }
        switch (what) {
            case 0:
                return plan.holds[room];
            case 1:
                return now.leftIn(room);
            case 2:
                return now.bitsIn(room);
            default:
                return NONE;
        }
    }

    public int trunk(int trunk, int what) {
        if (!now.has(trunk)) {
            return NO_TRUNK;
        }
        switch (what) {
            case 0:
                return now.bulk[trunk];
            case 1:
                return now.room[trunk];
            case 2:
                return now.marks[trunk];
            case 3:
                return now.told[trunk];
            case 4:
                return now.pines[trunk];
            case 5:
                return now.firstParent[trunk];
            case 6:
                return now.otherParent[trunk];
            default:
                return NO_TRUNK;
        }
    }

    public int brood(int trunk, int other) {
        if (trunk == other || !now.hasBoth(trunk, other) || now.room[trunk] != now.room[other]) {
            return NO_BROOD;
        }
        return years.broodOf(now, trunk, other);
    }

    public int couple(int room) {
        return plan.hasRoom(room) ? now.coupleIn(room) : NONE;
    }

    // ---- acts ----

    public int year() {
        if (now.year >= MOST_YEARS) {
            return NONE;
        }
        years.pass(now, plan.pines);
        acts.keep(now);
        return years.came;
    }

    public int carry(int trunk, int room) {
        if (!now.has(trunk) || !plan.hasRoom(room)) {
            return NONE;
        }
        int from = now.room[trunk];
        if (from == room || now.leftIn(room) < now.bulk[trunk]) {
            return NONE;
        }
        now.room[trunk] = room;
        acts.keep(now);
        return from;
    }

    public int tell(int trunk) {
        if (!now.has(trunk) || now.tales < 1 || now.told[trunk] >= MOST_TALES_TOLD) {
            return NONE;
        }
        now.tales--;
        now.told[trunk]++;
        acts.keep(now);
        return now.told[trunk];
    }

    public int lose(int trunk) {
        if (!now.has(trunk)) {
            return NONE;
        }
        int bulk = now.bulk[trunk];
        now.remove(trunk);
        acts.keep(now);
        return bulk;
    }

    public boolean undo() {
        return acts.stepBack(now);
    }

    public boolean redo() {
        return acts.stepOn(now);
    }

    // ---- what lies ahead ----

    public int will(int place, int n, int what) {
        if (!canLieAhead(n) || what < 0 || what > 1) {
            return NONE;
        }
        State then = years.behind(now, n, plan.pines);
        if (!then.has(place)) {
            return NONE;
        }
        return what == 0 ? then.bulk[place] : then.marks[place];
    }

    public int alive(int n) {
        return canLieAhead(n) ? years.behind(now, n, plan.pines).bits() : NONE;
    }

    public int need(int n) {
        if (!canLieAhead(n)) {
            return NONE;
        }
        int tales = 0;
        for (int t = 0; t < PLACES; t++) {
            if (now.bulk[t] > 0) {
                tales += Math.max(0, n - now.told[t]);
            }
        }
        return tales;
    }

    public int best(int trunk, int what) {
        if (!now.has(trunk) || what < 0 || what > 1) {
            return NONE;
        }
        int bestRoom = NONE;
        int most = NONE;
        for (int r = 0; r < plan.rooms; r++) {
            if (r == now.room[trunk] || now.leftIn(r) >= now.bulk[trunk]) {
                int count = years.countIfCarried(now, trunk, r);
                if (count > most) {
                    bestRoom = r;
                    most = count;
                }
            }
        }
        return what == 0 ? bestRoom : most;
    }

    public int fading(int n) {
        return canLieAhead(n) ? now.allMarks() & ~years.behind(now, n, plan.pines).allMarks() : NONE;
    }

    public int ripe() {
        int bits = 0;
        for (int r = 0; r < plan.rooms; r++) {
            if (years.isRipe(now, r)) {
                bits |= 1 << r;
            }
        }
        return bits;
    }

    public int law(int p, int n) {
        if (p < 1 || p > MOST_PINES || !canLieAhead(n)) {
            return NONE;
        }
        return years.behind(now, n, p).count();
    }

    public int gone(int trunk) {
        return now.has(trunk) ? years.untilGone(now, trunk) : NONE;
    }

    private static boolean canLieAhead(int n) {
        return n >= 0 && n <= MOST_AHEAD;
    }

    // ---- rooms ----

    public int pack() {
        int fewest = stowing.packAll(now);
        lyingCount = 0;
        if (fewest != NONE) {
            for (int t = 0; t < PLACES; t++) {
                layDown(stowing.choice[t]);
            }
        }
        return fewest;
    }

    public int fill(int room, int what) {
        if (!plan.hasRoom(room) || what < 0 || what > 1) {
            return NONE;
        }
        int set = stowing.fullest(now, room);
        return what == 0 ? now.bulkOf(set) : set;
    }

    public int rivals(int trunk, int other) {
        lyingCount = 0;
        if (trunk == other || !now.hasBoth(trunk, other)) {
            return NONE;
        }
        int rests = stowing.countRests(now, trunk, other);
        if (rests > 0) {
            layDown(stowing.restOfFirst);
            layDown(stowing.restOfOther);
        }
        return rests;
    }

    public int roomiest() {
        int best = NONE;
        int most = NONE;
        for (int r = 0; r < plan.rooms; r++) {
            int left = now.leftIn(r);
            if (left > most) {
                best = r;
                most = left;
            }
        }
        return best;
    }

    public int lies(int i) {
        return i >= 0 && i < lyingCount && i < PLACES ? lying[i] : NO_NUMBER;
    }

    private void layDown(int number) {
        if (lyingCount >= 0 && lyingCount < PLACES) {
            lying[lyingCount] = number;
            lyingCount++;
        }
    }

    // ---- marks and kin ----

    public int sires(int trunk, int what) {
        if (!now.has(trunk) || what < 0 || what > 2) {
            return NONE;
        }
        int pair = Relations.nearestPair(now, trunk);
        if (pair == NONE) {
            return NONE;
        }
        int first = pair / PLACES;
        int other = pair % PLACES;
        if (what == 2) {
            return Relations.marksInNeither(now, trunk, first, other);
        }
        return what == 0 ? first : other;
    }

    public int quartet(int a, int b, int c, int d, int what) {
        boolean four = a != b && a != c && a != d && b != c && b != d && c != d;
        if (!four || !now.hasBoth(a, b) || !now.hasBoth(c, d) || what < 0 || what > 1) {
            return NONE;
        }
        int parted = 0;
        int fewest = Relations.changes(now, a, b, c, d);
        int byThird = Relations.changes(now, a, c, b, d);
        if (byThird < fewest) {
            parted = 1;
            fewest = byThird;
        }
        int byFourth = Relations.changes(now, a, d, b, c);
        if (byFourth < fewest) {
            parted = 2;
            fewest = byFourth;
        }
        return what == 0 ? parted : fewest;
    }

    public int span() {
        return Relations.leastTree(now);
    }

    public int line(int trunk) {
        return now.has(trunk) ? Relations.forebears(now, trunk) : NONE;
    }

    public int litter(int trunk) {
        if (!now.has(trunk)) {
            return NONE;
        }
        int bits = 0;
        for (int t = 0; t < PLACES; t++) {
            if (now.firstParent[t] == trunk || now.otherParent[t] == trunk) {
                bits |= 1 << t;
            }
        }
        return bits;
    }

    public int kin(int trunk, int other) {
        return now.hasBoth(trunk, other) ? Relations.steps(now, trunk, other) : NONE;
    }

    public int alike(int trunk, int other) {
        return now.hasBoth(trunk, other) ? now.shared(trunk, other) : NONE;
    }

    public int like(int trunk) {
        return now.has(trunk) ? Relations.mostLike(now, trunk) : NONE;
    }

    public int odd() {
        return Relations.leastLikeAll(now);
    }

    public int bearers(int mark) {
        return mark >= 0 && mark < MARK_COUNT ? Relations.countWith(now, mark) : NONE;
    }

    public int pining() {
        int bits = 0;
        for (int t = 0; t < PLACES; t++) {
            if (now.pines[t] > 0) {
                bits |= 1 << t;
            }
        }
        return bits;
    }

    // ---- what is held of the last one's marks ----

    public int held(int trunk, int many, boolean is) {
        if (trunk < 0 || trunk >= plan.trunks - 1 || many < 0 || many > MARK_COUNT) {
            return NONE;
        }
        return memory.hold(trunk, many, is);
    }

    public boolean untell(int held) {
        return memory.takeBack(held);
    }

    public int later(int by) {
        if (by < 0 || by > MOST_LATER || memory.time > MOST_TIME - by) {
            return NONE;
        }
        memory.time += by;
        return memory.time;
    }

    public int fits(int k) {
        return memory.countFitting(k);
    }

    public int sure(int mark, int k) {
        return mark >= 0 && mark < MARK_COUNT ? memory.knownOf(mark, k) : NONE;
    }

    public int ask(int what, int k) {
        if (what < 0 || what > 1) {
            return NONE;
        }
        int next = memory.bestToAsk(k);
        return what == 0 || next == NONE ? next : memory.mostLeftBy(next, k);
    }

    // ---- boxes, and all in numbers ----

    public int image(int box) {
        return boxes.put(box, now) ? now.year : NONE;
    }

    public int back(int box) {
        if (!boxes.take(box, now)) {
            return NONE;
        }
        acts.begin(now);
        return now.year;
    }

    public int about(int what) {
        switch (what) {
            case 0:
                return now.count();
            case 1:
                return plan.rooms;
            case 2:
                return now.bits();
            case 3:
                return now.tales;
            case 4:
                return now.year;
            case 5:
                return now.seed;
            case 6:
                return acts.done;
            case 7:
                return acts.all - acts.done;
            case 8:
                return memory.count;
            case 9:
                return memory.time;
            case 10:
                return tape.length;
            case 11:
                return plan.brood.units;
            case 12:
                return lyingCount;
            case 13:
                return plan.pines;
            case 14:
                return plan.trunks;
            default:
                return NONE;
        }
    }

    /** The TAPE, and the TOKEN on it that is looked at. */
    private static final class Tape {
        private final int[] bytes = new int[TAPE_MOST];
        private final long[] ownWords = new long[WORD_COUNT];
        private int at = 0;
        int length = 0;
        int kind = END;
        int place = 0;
        int number = 0;
        long word = 0;

        Tape() {
            long code = 0;
            int count = 0;
            for (int i = 0; i < WORDS.length(); i++) {
                char c = WORDS.charAt(i);
                if (c != ' ') {
                    code = withLetter(code, c);
                } else if (count < WORD_COUNT) {
                    ownWords[count] = code;
                    count++;
                    code = 0;
                }
            }
        }

        void put(int four) {
            for (int shift = 24; shift >= 0; shift -= 8) {
                if (length >= 0 && length < TAPE_MOST) {
                    bytes[length] = four >> shift & 255;
                    length++;
                }
            }
        }

        void rewind() {
            at = 0;
            advance();
        }

        void advance() {
            for (int i = 0; i < TAPE_MOST && isBlank(look()); i++) {
                at++;
            }
            place = at;
            int c = look();
            if (c == NONE) {
                kind = END;
            } else if (isLetter(c)) {
                takeWord();
            } else if (isDigit(c)) {
                takeNumber();
            } else {
                kind = signKind(c);
                at++;
            }
        }

        private void takeWord() {
            int letters = 0;
            word = 0;
            for (int i = 0; i < TAPE_MOST && isLetter(look()); i++) {
                word = withLetter(word, look());
                letters++;
                at++;
            }
            kind = letters > 8 ? BAD : wordKind(word);
        }

        private void takeNumber() {
            int digits = 0;
            number = 0;
            for (int i = 0; i < TAPE_MOST && isDigit(look()); i++) {
                number = number * 10 + look() - '0';
                digits++;
                at++;
            }
            kind = digits > 4 || isLetter(look()) ? BAD : NUMBER;
        }

        private int look() {
            return at >= 0 && at < length && at < TAPE_MOST ? bytes[at] : NONE;
        }

        private int wordKind(long code) {
            for (int i = 0; i < WORD_COUNT; i++) {
                if (ownWords[i] == code) {
                    return i;
                }
            }
            return NAME;
        }

        // Eight letters of five bits each: two words are the same if their codes are.
        private static long withLetter(long code, int letter) {
            return code * 32 + (letter - 'a' + 1);
        }

        private static boolean isBlank(int c) {
            return c == ' ' || c == '\n';
        }

        private static boolean isLetter(int c) {
            return c >= 'a' && c <= 'z';
        }

        private static boolean isDigit(int c) {
            return c >= '0' && c <= '9';
        }

        private static int signKind(int c) {
            switch (c) {
                case ';':
                    return SEMICOLON;
                case '(':
                    return OPEN;
                case ')':
                    return CLOSE;
                case '<':
                    return LESS;
                case '>':
                    return MORE;
                case '=':
                    return SAME;
                case '+':
                    return PLUS;
                case '-':
                    return MINUS;
                case '*':
                    return TIMES;
                case '/':
                    return OVER;
                case '%':
                    return REST;
                default:
                    return BAD;
            }
        }
    }

    /** What comes of two: steps on a stack, each a kind of TOKEN, told behind what it works on. */
    private static final class Formula {
        private final int[] kinds = new int[MOST_STEPS];
        private final int[] numbers = new int[MOST_STEPS];
        private final int[] stack = new int[MOST_STEPS];
        private int length = 0;
        int units = 0;

        void clear() {
            length = 0;
            units = 0;
        }

        void beAsUntold() {
            clear();
            addStep(ALIKE, 0);
            addStep(MANY, 0);
            addStep(MINUS, 0);
        }

        void addStep(int kind, int number) {
            if (length >= 0 && length < MOST_STEPS) {
                kinds[length] = kind;
                numbers[length] = number;
                length++;
            }
        }

        void copyFrom(Formula other) {
            clear();
            for (int i = 0; i < other.length && i < MOST_STEPS; i++) {
                addStep(other.kinds[i], other.numbers[i]);
            }
            units = other.units;
        }

        int value(int bulk, int alike, int left, int many, int year) {
            int top = 0;
            for (int i = 0; i < length && i < MOST_STEPS; i++) {
                switch (kinds[i]) {
                    case NUMBER:
                        top = push(top, numbers[i]);
                        break;
                    case BULK:
                        top = push(top, bulk);
                        break;
                    case ALIKE:
                        top = push(top, alike);
                        break;
                    case LEFT:
                        top = push(top, left);
                        break;
                    case MANY:
                        top = push(top, many);
                        break;
                    case YEAR:
                        top = push(top, year);
                        break;
                    default:
                        top = work(top, kinds[i]);
                        break;
                }
            }
            return top > 0 ? stack[0] : 0;
        }

        private int push(int top, int number) {
            if (top < 0 || top >= MOST_STEPS) {
                return top;
            }
            stack[top] = number;
            return top + 1;
        }

        private int work(int top, int kind) {
            if (top < 1 || top > MOST_STEPS) {
                return top;
            }
            if (kind == NOT) {
                stack[top - 1] = stack[top - 1] == 0 ? 1 : 0;
                return top;
            }
            if (top < 2) {
                return top;
            }
            stack[top - 2] = join(kind, stack[top - 2], stack[top - 1]);
            return top - 1;
        }

        private static int join(int kind, int a, int b) {
            switch (kind) {
                case OR:
                    return a != 0 || b != 0 ? 1 : 0;
                case AND:
                    return a != 0 && b != 0 ? 1 : 0;
                case LESS:
                    return a < b ? 1 : 0;
                case MORE:
                    return a > b ? 1 : 0;
                case SAME:
                    return a == b ? 1 : 0;
                case PLUS:
                    return a + b;
                case MINUS:
                    return a - b;
                case TIMES:
                    return a * b;
                case OVER:
                    return b == 0 ? 0 : a / b;
                case REST:
                    return b == 0 ? 0 : a % b;
                default:
                    return 0;
            }
        }
    }

    /** The HOUSE as a text tells it. */
    private static final class Plan {
        final int[] holds = new int[MOST_ROOMS];
        final int[] bulk = new int[MOST_TOLD];
        final int[] room = new int[MOST_TOLD];
        final int[] marks = new int[MOST_TOLD];
        final int[] told = new int[MOST_TOLD];
        final Formula brood = new Formula();
        int rooms = 0;
        int trunks = 0;
        int pines = 3;
        int tales = 0;
        int draw = 0;

        Plan() {
            brood.beAsUntold();
        }

        void clear() {
            rooms = 0;
            trunks = 0;
            pines = 3;
            tales = 0;
            draw = 0;
            brood.beAsUntold();
        }

        void copyFrom(Plan other) {
            System.arraycopy(other.holds, 0, holds, 0, MOST_ROOMS);
            System.arraycopy(other.bulk, 0, bulk, 0, MOST_TOLD);
            System.arraycopy(other.room, 0, room, 0, MOST_TOLD);
            System.arraycopy(other.marks, 0, marks, 0, MOST_TOLD);
            System.arraycopy(other.told, 0, told, 0, MOST_TOLD);
            brood.copyFrom(other.brood);
            rooms = other.rooms;
            trunks = other.trunks;
            pines = other.pines;
            tales = other.tales;
            draw = other.draw;
        }

        boolean hasRoom(int r) {
            return r >= 0 && r < rooms && r < MOST_ROOMS;
        }

        int leftIn(int r) {
            int left = hasRoom(r) ? holds[r] : 0;
            for (int t = 0; t < trunks && t < MOST_TOLD; t++) {
                if (room[t] == r) {
                    left -= bulk[t];
                }
            }
            return left;
        }
    }

    /** Reads the TAPE into a draft, so that the HOUSE stays as it is if there is a FAULT. */
    private static final class Reader {
        private static final int LEVEL_E = 1;
        private static final int LEVEL_BOTH = 2;
        private static final int LEVEL_ONE = 3;
        private static final int LEVEL_SUM = 4;
        private static final int LEVEL_TERM = 5;
        private static final int LEVEL_UNIT = 6;
        private final Tape tape;
        private final long[] roomNames = new long[MOST_ROOMS];
        private final long[] trunkNames = new long[MOST_TOLD];
        private int onceTold = 0;
        private int value = 0;
        final Plan draft = new Plan();
        int faultCode = 0;
        int faultPlace = NONE;

        Reader(Tape tape) {
            this.tape = tape;
        }

        boolean readAll() {
            draft.clear();
            onceTold = 0;
            faultCode = 0;
            faultPlace = NONE;
            tape.rewind();
            for (int i = 0; i < TAPE_MOST && tape.kind != END; i++) {
                if (!readLine()) {
                    return false;
                }
            }
            return true;
        }

        private boolean readLine() {
            switch (tape.kind) {
                case ROOM:
                    return readRoom();
                case TRUNK:
                    return readTrunk();
                case BROOD:
                    draft.brood.clear();
                    return isFirst(BROOD) && readPart(LEVEL_E, 0) && take(SEMICOLON);
                case PINES:
                    if (!isFirst(PINES) || !readNumber(1, MOST_PINES)) {
                        return false;
                    }
                    draft.pines = value;
                    return take(SEMICOLON);
                case TALES:
                    if (!isFirst(TALES) || !readNumber(0, 99)) {
                        return false;
                    }
                    draft.tales = value;
                    return take(SEMICOLON);
                case DRAW:
                    if (!isFirst(DRAW) || !readNumber(0, SEEDS - 1)) {
                        return false;
                    }
                    draft.draw = value;
                    return take(SEMICOLON);
                default:
                    return cannotStand();
            }
        }

        private boolean readRoom() {
            int r = draft.rooms;
            if (r < 0 || r >= MOST_ROOMS) {
                return cannotStand();
            }
            tape.advance();
            if (!readNewName(roomNames, r) || !take(HOLDS) || !readNumber(0, 99)) {
                return false;
            }
            draft.holds[r] = value;
            draft.rooms = r + 1;
            return take(SEMICOLON);
        }

        private boolean readTrunk() {
            int t = draft.trunks;
            if (t < 0 || t >= MOST_TOLD) {
                return cannotStand();
            }
            tape.advance();
            if (!readNewName(trunkNames, t) || !take(BULK) || !readNumber(1, MOST_BULK)) {
                return false;
            }
            draft.bulk[t] = value;
            if (!take(AT) || !readRoomFor(draft.bulk[t])) {
                return false;
            }
            draft.room[t] = value;
            if (!take(MARKS) || !readNumber(0, MARK_SETS - 1)) {
                return false;
            }
            draft.marks[t] = value;
            draft.told[t] = 0;
            if (tape.kind == TOLD) {
                tape.advance();
                if (!readNumber(0, MOST_TALES_TOLD)) {
                    return false;
                }
                draft.told[t] = value;
            }
            draft.trunks = t + 1;
            return take(SEMICOLON);
        }

        private boolean readNewName(long[] names, int count) {
            if (tape.kind != NAME) {
                return cannotStand();
            }
            if (find(names, count, tape.word) != NONE) {
                return failAs(FAULT_TOLD_OR_FULL);
            }
            if (count >= 0 && count < names.length) {
                names[count] = tape.word;
            }
            tape.advance();
            return true;
        }

        private boolean readRoomFor(int bulk) {
            if (tape.kind != NAME) {
                return cannotStand();
            }
            int r = find(roomNames, draft.rooms, tape.word);
            if (r == NONE) {
                return failAs(FAULT_NO_ROOM);
            }
            if (draft.leftIn(r) < bulk) {
                return failAs(FAULT_TOLD_OR_FULL);
            }
            value = r;
            tape.advance();
            return true;
        }

        private boolean readNumber(int least, int most) {
            if (tape.kind != NUMBER) {
                return cannotStand();
            }
            if (tape.number < least || tape.number > most) {
                return failAs(FAULT_NUMBER);
            }
            value = tape.number;
            tape.advance();
            return true;
        }

        private boolean isFirst(int kind) {
            int bit = 1 << kind;
            if ((onceTold & bit) != 0) {
                return cannotStand();
            }
            onceTold |= bit;
            tape.advance();
            return true;
        }

        /** A part of a formula by its level, which is within so many others. */
        private boolean readPart(int level, int within) {
            if (level >= LEVEL_UNIT) {
                return readUnit(within);
            }
            return level == LEVEL_ONE && tape.kind == NOT ? readNot(within) : readJoined(level, within);
        }

        private boolean readJoined(int level, int within) {
            if (!readPart(level + 1, within)) {
                return false;
            }
            int mostSigns = level == LEVEL_ONE ? 1 : MOST_UNITS;
            for (int i = 0; i < mostSigns && levelOf(tape.kind) == level; i++) {
                int sign = tape.kind;
                tape.advance();
                if (!readPart(level + 1, within)) {
                    return false;
                }
                draft.brood.addStep(sign, 0);
            }
            return true;
        }

        private boolean readNot(int within) {
            if (within > MOST_WITHIN) {
                return cannotStand();
            }
            tape.advance();
            if (!readPart(LEVEL_ONE, within + 1)) {
                return false;
            }
            draft.brood.addStep(NOT, 0);
            return true;
        }

        private boolean readUnit(int within) {
            int kind = tape.kind;
            boolean isPlain = kind == NUMBER || kind == BULK || kind == ALIKE || kind == LEFT || kind == MANY
                || kind == YEAR;
            boolean isNested = kind == OPEN && within <= MOST_WITHIN;
            if (!isPlain && !isNested || draft.brood.units >= MOST_UNITS) {
                return cannotStand();
            }
            draft.brood.units++;
            if (isPlain) {
                draft.brood.addStep(kind, tape.number);
                tape.advance();
                return true;
            }
            tape.advance();
            if (!readPart(LEVEL_E, within + 1)) {
                return false;
            }
            if (tape.kind != CLOSE) {
                return cannotStand();
            }
            tape.advance();
            return true;
        }

        private static int levelOf(int kind) {
            switch (kind) {
                case OR:
                    return LEVEL_E;
                case AND:
                    return LEVEL_BOTH;
                case LESS:
                case MORE:
                case SAME:
                    return LEVEL_ONE;
                case PLUS:
                case MINUS:
                    return LEVEL_SUM;
                case TIMES:
                case OVER:
                case REST:
                    return LEVEL_TERM;
                default:
                    return LEVEL_UNIT;
            }
        }

        private boolean take(int kind) {
            if (tape.kind != kind) {
                return cannotStand();
            }
            tape.advance();
            return true;
        }

        private boolean cannotStand() {
            return failAs(tape.kind == BAD ? FAULT_NO_TOKEN : FAULT_CANNOT_STAND);
        }

        private boolean failAs(int code) {
            faultCode = code;
            faultPlace = tape.place;
            return false;
        }

        private static int find(long[] names, int count, long name) {
            for (int i = 0; i < count && i < names.length; i++) {
                if (names[i] == name) {
                    return i;
                }
            }
            return NONE;
        }
    }

    /** What each place has; a free place has no bulk. */
    private static final class State {
        private final Plan plan;
        final int[] bulk = new int[PLACES];
        final int[] room = new int[PLACES];
        final int[] marks = new int[PLACES];
        final int[] told = new int[PLACES];
        final int[] pines = new int[PLACES];
        final int[] firstParent = new int[PLACES];
        final int[] otherParent = new int[PLACES];
        int tales = 0;
        int year = 0;
        int seed = 0;

        State(Plan plan) {
            this.plan = plan;
            for (int t = 0; t < PLACES; t++) {
                remove(t);
            }
        }

        void standAsTold() {
            for (int t = 0; t < PLACES; t++) {
                remove(t);
            }
            for (int t = 0; t < plan.trunks && t < MOST_TOLD; t++) {
                add(t, plan.bulk[t], plan.room[t], plan.marks[t]);
                told[t] = plan.told[t];
            }
            tales = plan.tales;
            year = 0;
            seed = plan.draw;
        }

        void copyFrom(State other) {
            System.arraycopy(other.bulk, 0, bulk, 0, PLACES);
            System.arraycopy(other.room, 0, room, 0, PLACES);
            System.arraycopy(other.marks, 0, marks, 0, PLACES);
            System.arraycopy(other.told, 0, told, 0, PLACES);
            System.arraycopy(other.pines, 0, pines, 0, PLACES);
            System.arraycopy(other.firstParent, 0, firstParent, 0, PLACES);
            System.arraycopy(other.otherParent, 0, otherParent, 0, PLACES);
            tales = other.tales;
            year = other.year;
            seed = other.seed;
        }

        void add(int t, int itsBulk, int itsRoom, int itsMarks) {
            if (t >= 0 && t < PLACES) {
                bulk[t] = itsBulk;
                room[t] = itsRoom;
                marks[t] = itsMarks;
            }
        }

        /** Also takes it from its young, so that whoever comes to its place is no PARENT of theirs. */
        void remove(int t) {
            if (t < 0 || t >= PLACES) {
                return;
            }
            bulk[t] = 0;
            room[t] = NONE;
            marks[t] = 0;
            told[t] = 0;
            pines[t] = 0;
            firstParent[t] = NONE;
            otherParent[t] = NONE;
            for (int o = 0; o < PLACES; o++) {
                if (firstParent[o] == t) {
                    firstParent[o] = NONE;
                }
                if (otherParent[o] == t) {
                    otherParent[o] = NONE;
                }
            }
        }

        boolean has(int t) {
            return t >= 0 && t < PLACES && bulk[t] > 0;
        }

        boolean hasBoth(int t, int o) {
            return has(t) && has(o);
        }

        int bits() {
            int set = 0;
            for (int t = 0; t < PLACES; t++) {
                if (bulk[t] > 0) {
                    set |= 1 << t;
                }
            }
            return set;
        }

        int bitsIn(int r) {
            int set = 0;
            for (int t = 0; t < PLACES; t++) {
                if (bulk[t] > 0 && room[t] == r) {
                    set |= 1 << t;
                }
            }
            return set;
        }

        int count() {
            return Integer.bitCount(bits());
        }

        int bulkOf(int set) {
            int sum = 0;
            for (int t = 0; t < PLACES; t++) {
                if ((set >> t & 1) != 0) {
                    sum += bulk[t];
                }
            }
            return sum;
        }

        int leftIn(int r) {
            return plan.hasRoom(r) ? plan.holds[r] - bulkOf(bitsIn(r)) : 0;
        }

        int firstFree() {
            for (int t = 0; t < PLACES; t++) {
                if (bulk[t] == 0) {
                    return t;
                }
            }
            return NONE;
        }

        int allMarks() {
            int all = 0;
            for (int t = 0; t < PLACES; t++) {
                all |= marks[t];
            }
            return all;
        }

        int shared(int t, int o) {
            return hasBoth(t, o) ? MARK_COUNT - Integer.bitCount(marks[t] ^ marks[o]) : 0;
        }

        /** The COUPLE as the one told first * 8 + the other one. */
        int coupleIn(int r) {
            int first = bulkiestIn(r, NONE);
            int other = bulkiestIn(r, first);
            return first == NONE || other == NONE ? NONE : first * PLACES + other;
        }

        private int bulkiestIn(int r, int butNot) {
            int best = NONE;
            int most = 0;
            for (int t = 0; t < PLACES; t++) {
                if (t != butNot && room[t] == r && pines[t] == 0 && bulk[t] > most) {
                    best = t;
                    most = bulk[t];
                }
            }
            return best;
        }

        int parentsOf(int set) {
            int parents = 0;
            for (int t = 0; t < PLACES; t++) {
                if ((set >> t & 1) != 0) {
                    parents |= bitOf(firstParent[t]) | bitOf(otherParent[t]);
                }
            }
            return parents;
        }

        private static int bitOf(int t) {
            return t >= 0 && t < PLACES ? 1 << t : 0;
        }
    }

    /** How YEARS go, and what lies ahead. */
    private static final class Years {
        private final Plan plan;
        private final State ahead;
        int came = 0;
        private int fell = 0;

        Years(Plan plan) {
            this.plan = plan;
            this.ahead = new State(plan);
        }

        /** A YEAR; pines as the limit tells, for law asks with another one. */
        void pass(State s, int limit) {
            came = 0;
            fell = 0;
            listen(s, limit);
            grow(s);
            for (int r = 0; r < plan.rooms; r++) {
                if (isRipe(s, r)) {
                    bringForth(s, s.coupleIn(r), s.firstFree());
                }
            }
            s.year++;
        }

        State behind(State now, int n, int limit) {
            ahead.copyFrom(now);
            for (int i = 0; i < n; i++) {
                pass(ahead, limit);
            }
            return ahead;
        }

        int countIfCarried(State now, int trunk, int room) {
            ahead.copyFrom(now);
            if (trunk >= 0 && trunk < PLACES) {
                ahead.room[trunk] = room;
            }
            for (int i = 0; i < YEARS_OF_BEST; i++) {
                pass(ahead, plan.pines);
            }
            return ahead.count();
        }

        /** By who falls apart, not by who is there: a young one may come to its place in the same YEAR. */
        int untilGone(State now, int trunk) {
            ahead.copyFrom(now);
            for (int i = 1; i <= MOST_AHEAD; i++) {
                pass(ahead, plan.pines);
                if ((fell >> trunk & 1) != 0) {
                    return i;
                }
            }
            return NONE;
        }

        boolean isRipe(State s, int r) {
            int couple = s.coupleIn(r);
            if (couple == NONE || s.firstFree() == NONE) {
                return false;
            }
            int first = couple / PLACES;
            int other = couple % PLACES;
            return youngBulk(s, first, other) <= s.leftIn(r) && broodOf(s, first, other) > 0;
        }

        int broodOf(State s, int a, int b) {
            if (!s.hasBoth(a, b)) {
                return NO_BROOD;
            }
            int left = s.leftIn(s.room[a]);
            return plan.brood.value(s.bulk[a] + s.bulk[b], s.shared(a, b), left, s.count(), s.year);
        }

        private static int youngBulk(State s, int a, int b) {
            return s.hasBoth(a, b) ? Math.max(1, (s.bulk[a] + s.bulk[b]) / 4) : 1;
        }

        private void listen(State s, int limit) {
            for (int t = 0; t < PLACES; t++) {
                if (s.bulk[t] == 0) {
                    continue;
                }
                if (s.told[t] > 0) {
                    s.told[t]--;
                    s.pines[t] = 0;
                } else {
                    s.pines[t]++;
                    if (s.pines[t] >= limit) {
                        s.remove(t);
                        fell |= 1 << t;
                    }
                }
            }
        }

        private static void grow(State s) {
            for (int t = 0; t < PLACES; t++) {
                boolean can = s.bulk[t] > 0 && s.bulk[t] < MOST_BULK && s.pines[t] == 0;
                if (can && s.leftIn(s.room[t]) >= 1) {
                    s.bulk[t]++;
                }
            }
        }

        private void bringForth(State s, int couple, int young) {
            int first = couple / PLACES;
            int other = couple % PLACES;
            if (!s.hasBoth(first, other) || young < 0 || young >= PLACES) {
                return;
            }
            s.seed = (s.seed * 137 + 71) % SEEDS;
            // cut by 2 k times and odd is to have bit k
            int marks = s.seed & s.marks[first] | ~s.seed & s.marks[other];
            s.add(young, youngBulk(s, first, other), s.room[first], marks);
            s.firstParent[young] = first;
            s.otherParent[young] = other;
            came |= 1 << young;
        }
    }

    /** What was behind each ACT, the state ahead of the first one too, so that steps go both ways. */
    private static final class Acts {
        private final State[] kept = new State[MOST_ACTS + 1];
        int done = 0;
        int all = 0;

        Acts(Plan plan) {
            for (int i = 0; i <= MOST_ACTS; i++) {
                kept[i] = new State(plan);
            }
        }

        void begin(State now) {
            done = 0;
            all = 0;
            write(0, now);
        }

        void keep(State now) {
            if (done < MOST_ACTS) {
                done++;
            } else {
                dropOldest();
            }
            all = done;
            write(done, now);
        }

        boolean stepBack(State now) {
            if (done < 1) {
                return false;
            }
            done--;
            read(done, now);
            return true;
        }

        boolean stepOn(State now) {
            if (done >= all) {
                return false;
            }
            done++;
            read(done, now);
            return true;
        }

        private void dropOldest() {
            State oldest = kept[0];
            for (int i = 0; i < MOST_ACTS; i++) {
                kept[i] = kept[i + 1];
            }
            kept[MOST_ACTS] = oldest;
        }

        private void write(int i, State now) {
            State row = i >= 0 && i <= MOST_ACTS ? kept[i] : null;
            if (row != null) {
                row.copyFrom(now);
            }
        }

        private void read(int i, State now) {
            State row = i >= 0 && i <= MOST_ACTS ? kept[i] : null;
            if (row != null) {
                now.copyFrom(row);
            }
        }
    }

    /** The BOXES that images are kept in. */
    private static final class Boxes {
        private final State[] kept = new State[BOX_COUNT];
        private final boolean[] isFull = new boolean[BOX_COUNT];

        Boxes(Plan plan) {
            for (int i = 0; i < BOX_COUNT; i++) {
                kept[i] = new State(plan);
            }
        }

        void clear() {
            for (int i = 0; i < BOX_COUNT; i++) {
                isFull[i] = false;
            }
        }

        boolean put(int box, State now) {
            State row = box >= 0 && box < BOX_COUNT ? kept[box] : null;
            if (row == null) {
                return false;
            }
            row.copyFrom(now);
            isFull[box] = true;
            return true;
        }

        boolean take(int box, State now) {
            State row = box >= 0 && box < BOX_COUNT && isFull[box] ? kept[box] : null;
            if (row == null) {
                return false;
            }
            now.copyFrom(row);
            return true;
        }
    }

    /** Which TRUNKS could go into which ROOM. */
    private static final class Stowing {
        private final Plan plan;
        private final int[] space = new int[MOST_ROOMS];
        final int[] choice = new int[PLACES];
        int restOfFirst = NONE;
        int restOfOther = NONE;

        Stowing(Plan plan) {
            this.plan = plan;
        }

        /** PACK into choice: how many ROOMS. With more and more ROOMS, so that the first that can be is the fewest. */
        int packAll(State s) {
            for (int most = 0; most <= plan.rooms && most <= MOST_ROOMS; most++) {
                System.arraycopy(plan.holds, 0, space, 0, MOST_ROOMS);
                if (stowFrom(s, 0, 0, most)) {
                    return most;
                }
            }
            return NONE;
        }

        private boolean stowFrom(State s, int place, int used, int most) {
            int t = Math.max(place, 0);
            for (; t < PLACES && s.bulk[t] == 0; t++) {
                choice[t] = NONE;
            }
            if (t >= PLACES) {
                return true;
            }
            for (int r = 0; r < plan.rooms && r < MOST_ROOMS; r++) {
                int with = used | 1 << r;
                if (Integer.bitCount(with) <= most && space[r] >= s.bulk[t]) {
                    choice[t] = r;
                    if (stowBehind(s, t, with, most)) {
                        return true;
                    }
                }
            }
            return false;
        }

        /** Whether those behind t find their ROOMS, once t is in the one that it chose; if not, it comes out again. */
        private boolean stowBehind(State s, int t, int used, int most) {
            int r = choice[t];
            if (r < 0 || r >= MOST_ROOMS) {
                return false;
            }
            space[r] -= s.bulk[t];
            boolean can = stowFrom(s, t + 1, used, most);
            if (!can) {
                space[r] += s.bulk[t];
            }
            return can;
        }

        /** FILL as bits; sets are looked at from the least one on, so that only a better one takes its stead. */
        int fullest(State s, int room) {
            int holds = plan.hasRoom(room) ? plan.holds[room] : 0;
            int there = s.bits();
            int best = 0;
            int most = 0;
            for (int set = 1; set < SETS; set++) {
                int bulk = (set & ~there) == 0 ? s.bulkOf(set) : NONE;
                boolean isFewer = bulk == most && Integer.bitCount(set) < Integer.bitCount(best);
                if (bulk <= holds && (bulk > most || isFewer)) {
                    best = set;
                    most = bulk;
                }
            }
            return best;
        }

        /** How many RESTS; NONE if one has no ROOM to choose. */
        int countRests(State s, int trunk, int other) {
            if (!s.hasBoth(trunk, other)) {
                return NONE;
            }
            int own = s.bulk[trunk];
            int their = s.bulk[other];
            boolean firstCan = false;
            boolean otherCan = false;
            for (int r = 0; r < plan.rooms && r < MOST_ROOMS; r++) {
                space[r] = s.leftIn(r) + (s.room[trunk] == r ? own : 0) + (s.room[other] == r ? their : 0);
                firstCan |= space[r] >= own;
                otherCan |= space[r] >= their;
            }
            return firstCan && otherCan ? countPairsAtRest(own, their) : NONE;
        }

        private int countPairsAtRest(int own, int their) {
            int rests = 0;
            for (int a = 0; a < plan.rooms && a < MOST_ROOMS; a++) {
                for (int b = 0; b < plan.rooms && b < MOST_ROOMS; b++) {
                    if (isContent(a, b, own, their) && isContent(b, a, their, own)) {
                        if (rests == 0) {
                            restOfFirst = a;
                            restOfOther = b;
                        }
                        rests++;
                    }
                }
            }
            return rests;
        }

        /** Whether one can choose the ROOM mine, and has no more by another while the other one chooses theirs. */
        private boolean isContent(int mine, int theirs, int own, int their) {
            int gain = gainOf(mine, theirs, own, their);
            for (int r = 0; r < plan.rooms && r < MOST_ROOMS; r++) {
                if (gainOf(r, theirs, own, their) > gain) {
                    return false;
                }
            }
            return gain != NO_NUMBER;
        }

        private int gainOf(int mine, int theirs, int own, int their) {
            if (mine < 0 || mine >= MOST_ROOMS || space[mine] < own) {
                return NO_NUMBER;
            }
            int left = space[mine] - own;
            return mine == theirs ? Math.max(NONE, left - their) : left;
        }
    }

    /** Who is like whom by MARKS, and who is whose. */
    private static final class Relations {
        /** SIRES as the lesser one * 8 + the other one. */
        static int nearestPair(State s, int trunk) {
            int best = NONE;
            int fewest = MARK_COUNT + 1;
            for (int a = 0; a < PLACES; a++) {
                for (int b = a + 1; b < PLACES; b++) {
                    if (a != trunk && b != trunk && s.hasBoth(a, b)) {
                        int marks = marksInNeither(s, trunk, a, b);
                        if (marks < fewest) {
                            best = a * PLACES + b;
                            fewest = marks;
                        }
                    }
                }
            }
            return best;
        }

        static int marksInNeither(State s, int trunk, int a, int b) {
            if (!s.has(trunk) || !s.hasBoth(a, b)) {
                return 0;
            }
            return Integer.bitCount((s.marks[trunk] ^ s.marks[a]) & (s.marks[trunk] ^ s.marks[b]));
        }

        /** How many changes of MARKS explain four, a and b parted from c and d. */
        static int changes(State s, int a, int b, int c, int d) {
            if (!s.hasBoth(a, b) || !s.hasBoth(c, d)) {
                return 0;
            }
            int sum = 0;
            for (int k = 0; k < MARK_COUNT; k++) {
                int inA = s.marks[a] >> k & 1;
                int inB = s.marks[b] >> k & 1;
                int inC = s.marks[c] >> k & 1;
                int inD = s.marks[d] >> k & 1;
                int having = inA + inB + inC + inD;
                if (having == 2) {
                    sum += inA == inB ? 1 : 2;
                } else if (having == 1 || having == 3) {
                    sum++;
                }
            }
            return sum;
        }

        /** SPAN: from the first TRUNK on, the nearest one outside joins the tree. */
        static int leastTree(State s) {
            int outside = s.bits();
            int joined = outside & -outside;
            outside &= ~joined;
            int sum = 0;
            for (int i = 0; i < PLACES && outside != 0; i++) {
                int nearest = NONE;
                int least = MARK_COUNT + 1;
                for (int t = 0; t < PLACES; t++) {
                    int far = (outside >> t & 1) != 0 ? distanceTo(s, t, joined) : MARK_COUNT + 1;
                    if (far < least) {
                        nearest = t;
                        least = far;
                    }
                }
                if (nearest != NONE) {
                    joined |= 1 << nearest;
                    outside &= ~joined;
                    sum += least;
                }
            }
            return sum;
        }

        private static int distanceTo(State s, int trunk, int set) {
            int least = MARK_COUNT;
            for (int o = 0; o < PLACES; o++) {
                if ((set >> o & 1) != 0) {
                    least = Math.min(least, MARK_COUNT - s.shared(trunk, o));
                }
            }
            return least;
        }

        static int forebears(State s, int trunk) {
            int up = 1 << trunk;
            int all = 0;
            for (int i = 0; i < PLACES; i++) {
                up = s.parentsOf(up);
                all |= up;
            }
            return all;
        }

        /** KIN: those that are i steps above the one against those that are j steps above the other. */
        static int steps(State s, int trunk, int other) {
            int fewest = NONE;
            int up = 1 << trunk;
            for (int i = 0; i < PLACES; i++) {
                int upOther = 1 << other;
                for (int j = 0; j < PLACES; j++) {
                    if ((up & upOther) != 0 && (fewest == NONE || i + j < fewest)) {
                        fewest = i + j;
                    }
                    upOther = s.parentsOf(upOther);
                }
                up = s.parentsOf(up);
            }
            return fewest;
        }

        static int mostLike(State s, int trunk) {
            int best = NONE;
            int most = NONE;
            for (int o = 0; o < PLACES; o++) {
                if (o != trunk && s.has(o) && s.shared(trunk, o) > most) {
                    best = o;
                    most = s.shared(trunk, o);
                }
            }
            return best;
        }

        static int leastLikeAll(State s) {
            int best = NONE;
            int fewest = MARK_COUNT * PLACES + 1;
            for (int t = 0; t < PLACES; t++) {
                if (s.has(t)) {
                    int sum = 0;
                    for (int o = 0; o < PLACES; o++) {
                        sum += o == t ? 0 : s.shared(t, o);
                    }
                    if (sum < fewest) {
                        best = t;
                        fewest = sum;
                    }
                }
            }
            return best;
        }

        static int countWith(State s, int mark) {
            int count = 0;
            for (int t = 0; t < PLACES; t++) {
                count += s.marks[t] >> mark & 1;
            }
            return count;
        }
    }

    /** What is HELD of the last TRUNK as told, whose MARKS are not known. */
    private static final class Memory {
        private final Plan plan;
        private final int[] trunk = new int[MOST_HELD];
        private final int[] many = new int[MOST_HELD];
        private final boolean[] is = new boolean[MOST_HELD];
        private final int[] toldAt = new int[MOST_HELD];
        private final int[] untoldAt = new int[MOST_HELD];
        private final boolean[] isUntold = new boolean[MOST_HELD];
        private final int[] bySharing = new int[MARK_COUNT + 1];
        int count = 0;
        int time = 0;

        Memory(Plan plan) {
            this.plan = plan;
        }

        int hold(int withTrunk, int soMany, boolean isSo) {
            int h = count;
            if (h < 0 || h >= MOST_HELD) {
                return NONE;
            }
            trunk[h] = withTrunk;
            many[h] = soMany;
            is[h] = isSo;
            toldAt[h] = time;
            isUntold[h] = false;
            count++;
            return h;
        }

        boolean takeBack(int h) {
            if (h < 0 || h >= count || h >= MOST_HELD || isUntold[h]) {
                return false;
            }
            isUntold[h] = true;
            untoldAt[h] = time;
            return true;
        }

        int countFitting(int k) {
            int fitting = 0;
            for (int marks = 0; marks < MARK_SETS; marks++) {
                if (isFitting(marks, k)) {
                    fitting++;
                }
            }
            return fitting;
        }

        int knownOf(int mark, int k) {
            int having = 0;
            int lacking = 0;
            for (int marks = 0; marks < MARK_SETS; marks++) {
                if (isFitting(marks, k)) {
                    having += marks >> mark & 1;
                    lacking += 1 - (marks >> mark & 1);
                }
            }
            if (having > 0 && lacking > 0) {
                return NOT_THE_SAME;
            }
            if (having > 0) {
                return 1;
            }
            return lacking > 0 ? 0 : NONE;
        }

        int bestToAsk(int k) {
            int best = NONE;
            int fewest = MARK_SETS + 1;
            for (int t = 0; t < plan.trunks - 1; t++) {
                int most = mostLeftBy(t, k);
                if (most > 0 && most < fewest) {
                    best = t;
                    fewest = most;
                }
            }
            return best;
        }

        /** How many are left at the most if it is known how many that TRUNK shares; 0 if none FITS. */
        int mostLeftBy(int t, int k) {
            for (int i = 0; i <= MARK_COUNT; i++) {
                bySharing[i] = 0;
            }
            int most = 0;
            for (int marks = 0; marks < MARK_SETS; marks++) {
                if (isFitting(marks, k)) {
                    int shared = sharedWith(t, marks);
                    if (shared >= 0 && shared <= MARK_COUNT) {
                        bySharing[shared]++;
                        most = Math.max(most, bySharing[shared]);
                    }
                }
            }
            return most;
        }

        private boolean isFitting(int marks, int k) {
            if (plan.trunks < 1) {
                return false;
            }
            for (int h = 0; h < count && h < MOST_HELD; h++) {
                boolean counts = toldAt[h] <= k && !(isUntold[h] && untoldAt[h] <= k);
                if (counts && sharedWith(trunk[h], marks) >= many[h] != is[h]) {
                    return false;
                }
            }
            return true;
        }

        private int sharedWith(int t, int marks) {
            return t >= 0 && t < MOST_TOLD ? MARK_COUNT - Integer.bitCount(plan.marks[t] ^ marks) : NONE;
        }
    }
}
