/** The court of a web: what is told of it in a text, the hours and hearings, and what may be asked of it. */
public final class WebCourt {
    public static final int NONE = -1;

    private static final int NO_VERDICT = -1000000000;
    private static final int MAX_BYTES = 1600;
    private static final int MAX_KNOTS = 8;
    private static final int MAX_LINES = 14;
    private static final int MAX_PLEAS = 8;
    private static final int MAX_CASES = 6;
    private static final int MAX_CASE_PLEAS = 4;
    private static final int MAX_HOURS = 999;
    private static final int BOXES = 3;

    private static final int HELD = 0;
    private static final int LET_OFF = 1;
    private static final int KEPT = 2;

    // A row holds all that ACTS change, so that undoing and images are copies of one array.
    private static final int AT = 0;
    private static final int HOUR = 1;
    private static final int WAS_HEARD = 2;
    private static final int SEED = 3;
    private static final int STICKY = 4;
    private static final int STATE = 5;
    private static final int PLEAS = STATE + MAX_CASES;
    private static final int BEFORE = PLEAS + MAX_CASES;
    private static final int STAYED = BEFORE + MAX_CASES;
    private static final int ROW = STAYED + MAX_CASES;

    // Kinds of TOKENS: words by their place in WORDS (from 1), signs by their own number.
    private static final String WORDS =
            "knot line sticky plea strong case at pleads bench law back draw or and not many before stays kin hour ";
    private static final int WORD_KNOT = 1;
    private static final int WORD_LINE = 2;
    private static final int WORD_STICKY = 3;
    private static final int WORD_PLEA = 4;
    private static final int WORD_STRONG = 5;
    private static final int WORD_CASE = 6;
    private static final int WORD_AT = 7;
    private static final int WORD_PLEADS = 8;
    private static final int WORD_BENCH = 9;
    private static final int WORD_LAW = 10;
    private static final int WORD_BACK = 11;
    private static final int WORD_DRAW = 12;
    private static final int WORD_OR = 13;
    private static final int WORD_AND = 14;
    private static final int WORD_NOT = 15;
    private static final int WORD_MANY = 16;
    private static final int WORD_BEFORE = 17;
    private static final int WORD_STAYS = 18;
    private static final int WORD_KIN = 19;
    private static final int WORD_HOUR = 20;
    private static final int NAME = 200;
    private static final int NUMBER = 201;
    private static final int END = 202;
    private static final int NO_TOKEN = 203;

    private static final int FAULT_TOKEN = 1;
    private static final int FAULT_PLACE = 2;
    private static final int FAULT_TWICE = 3;
    private static final int FAULT_NUMBER = 4;
    private static final int FAULT_UNKNOWN = 5;

    private final Tape tape;
    private final Reader reader;
    private final Court court;
    private final Acts acts;
    private final Ways ways;
    private final Rounds rounds;
    private final Counsel counsel;
    private final Hearsay hearsay;
    private final int[][] boxes;
    private final int[] lying;
    private int lyingCount;
    private int boxesKept;
    private Web draft;

    public WebCourt() {
        tape = new Tape();
        draft = new Web();
        reader = new Reader(tape, draft);
        court = new Court(new Web());
        acts = new Acts();
        ways = new Ways(court);
        rounds = new Rounds(court, ways);
        counsel = new Counsel(court);
        hearsay = new Hearsay();
        boxes = new int[BOXES][ROW];
        lying = new int[MAX_KNOTS];
    }

    public int feed(int a, int b, int c, int d, int e) {
        if (tape.length + 20 > MAX_BYTES) {
            return NONE;
        }
        tape.put(a);
        tape.put(b);
        tape.put(c);
        tape.put(d);
        tape.put(e);
        return tape.length;
    }

    public int end(int n) {
        if (n < 0 || n > tape.length) {
            return NONE;
        }
        tape.length = n;
        return n;
    }

    public int web() {
        if (!reader.read(draft)) {
            return NONE;
        }
        Web before = court.web;
        court.open(draft);
        draft = before;
        tape.length = 0;
        acts.clear();
        hearsay.clear();
        lyingCount = 0;
        boxesKept = 0;
        return court.web.cases;
    }

    public int fault(int what) {
        if (what == 0) {
            return reader.fault;
        }
        return what == 1 ? reader.place : NONE;
    }

    public int knot(int knot, int what) {
        if (!court.hasKnot(knot)) {
            return NONE;
        }
        switch (what) {
            case 0:
                return court.nextTo(knot, false);
            case 1:
                return court.nextTo(knot, true);
            case 2:
                return court.heldAt(knot);
            default:
                return NONE;
        }
    }

    public int plea(int plea) {
        return court.hasPlea(plea) ? court.web.strong[plea] : NONE;
    }

    public int item(int item, int what) {
        if (!court.hasCase(item)) {
            return NONE;
        }
        switch (what) {
            case 0:
                return court.web.caseKnots[item];
            case 1:
                return court.row[STATE + item];
            case 2:
                return court.row[PLEAS + item];
            case 3:
                return court.web.casePleas[item];
            case 4:
                return court.row[BEFORE + item];
            case 5:
                return court.row[STAYED + item];
            default:
                return NONE;
        }
    }

    public int verdict(int item) {
        return court.hasCase(item) ? court.judgedNow(item) : NO_VERDICT;
    }

    public int hour(int knot) {
        if (!court.canGo(knot)) {
            return NONE;
        }
        acts.keep(court.row);
        return court.go(knot);
    }

    public int hear(int item) {
        if (!court.canBeHeard(item)) {
            return NONE;
        }
        acts.keep(court.row);
        return court.decide(item);
    }

    public int plead(int item, int plea) {
        if (!court.hasCase(item) || !court.hasPlea(plea) || court.pleads(item, plea)
                || Integer.bitCount(court.row[PLEAS + item]) >= MAX_CASE_PLEAS) {
            return NO_VERDICT;
        }
        return turnPlea(item, plea);
    }

    public int drop(int item, int plea) {
        if (!court.hasCase(item) || !court.hasPlea(plea) || !court.pleads(item, plea)
                || Integer.bitCount(court.row[PLEAS + item]) <= 1) {
            return NO_VERDICT;
        }
        return turnPlea(item, plea);
    }

    private int turnPlea(int item, int plea) {
        acts.keep(court.row);
        court.row[PLEAS + item] ^= 1 << plea;
        return court.judgedNow(item);
    }

    public int grab(int item) {
        if (!court.hasCase(item) || court.isHeld(item)) {
            return NONE;
        }
        acts.keep(court.row);
        court.row[STATE + item] = HELD;
        return Integer.bitCount(court.held());
    }

    public int spin(int line) {
        if (line < 0 || line >= court.web.lines) {
            return NONE;
        }
        acts.keep(court.row);
        court.row[STICKY] ^= 1 << line;
        return (court.row[STICKY] >> line) & 1;
    }

    public boolean undo() {
        return acts.takeBack(court.row);
    }

    public boolean redo() {
        return acts.doAgain(court.row);
    }

    public int shortest(int item, int what) {
        return fewestOf(item, (1 << court.web.pleas) - 1, what);
    }

    public int honest(int item, int what) {
        return court.hasCase(item) ? fewestOf(item, court.web.casePleas[item], what) : NONE;
    }

    private int fewestOf(int item, int allowed, int what) {
        if (!court.isHeld(item) || what < 0 || what > 1) {
            return NONE;
        }
        int set = counsel.fewestPleas(item, allowed);
        if (set == 0) {
            return NONE;
        }
        return what == 0 ? Integer.bitCount(set) : set;
    }

    public int way(int knot) {
        lyingCount = 0;
        if (!court.hasKnot(knot)) {
            return NONE;
        }
        ways.measure();
        int hours = ways.hours(court.row[AT], knot);
        if (hours >= Ways.FAR) {
            return NONE;
        }
        lyingCount = ways.walk(knot, lying);
        return hours;
    }

    public int round() {
        lyingCount = 0;
        int held = court.held();
        if (held == 0) {
            return NONE;
        }
        rounds.measure();
        int hours = rounds.fewestHours(held);
        if (hours >= Ways.FAR) {
            return NONE;
        }
        lyingCount = rounds.order(held, lying);
        return hours;
    }

    public int term(int n) {
        if (n < 0 || n > 30) {
            return NONE;
        }
        rounds.measure();
        return rounds.mostHeard(court.held(), n);
    }

    public int leave(int item) {
        return court.isHeld(item) ? counsel.hearingsTillFree(item) : NONE;
    }

    public int contrary(int what) {
        return memberOf(counsel.contraries(), what);
    }

    // A pair comes as one number, so that finding it makes no object.
    private static int memberOf(int pair, int what) {
        if (pair == NONE || what < 0 || what > 1) {
            return NONE;
        }
        return what == 0 ? pair / MAX_CASES : pair % MAX_CASES;
    }

    public int hopeless() {
        return counsel.withoutHope();
    }

    public int rivals(int item, int other) {
        lyingCount = 0;
        if (item == other || !court.isHeld(item) || !court.isHeld(other) || court.web.pleas == 0) {
            return NONE;
        }
        int rests = counsel.rests(item, other, lying);
        lyingCount = rests > 0 ? 2 : 0;
        return rests;
    }

    public int bridge(int what) {
        int line = ways.bridgeLine();
        if (line == NONE || what < 0 || what > 1) {
            return NONE;
        }
        return what == 0 ? line : ways.knotsWithout(line);
    }

    public int forbid(int what) {
        int plea = counsel.pleaToForbid();
        if (plea == NONE || what < 0 || what > 1) {
            return NONE;
        }
        return what == 0 ? plea : counsel.freeWithout(plea);
    }

    public int swap(int what) {
        int pair = counsel.bestExchange();
        if (pair == NONE || what != 2) {
            return memberOf(pair, what);
        }
        return counsel.freeByExchange(pair / MAX_CASES, pair % MAX_CASES);
    }

    public int advice(int item, int what) {
        if (!court.isHeld(item) || what < 0 || what > 1) {
            return NO_VERDICT;
        }
        int plea = counsel.pleaToTakeUp(item);
        if (plea == NONE) {
            return NO_VERDICT;
        }
        return what == 0 ? plea : court.judged(item, court.row[PLEAS + item] | 1 << plea);
    }

    public int free() {
        return counsel.freeNow();
    }

    public int reach() {
        return ways.reached(court.row[STICKY]);
    }

    public int fashion() {
        return counsel.commonestPlea();
    }

    public int likeliest() {
        return counsel.greatestVerdict();
    }

    public int loophole(int item) {
        return court.isHeld(item) ? counsel.freeingHour(item) : NONE;
    }

    public int precedent(int n) {
        return n < 0 || n > 99 ? NONE : counsel.freeAfter(n);
    }

    public int odds(int n, int part) {
        if (n < 0 || n > 4 || part < 0 || part > 1) {
            return NONE;
        }
        int stays = 100 - court.web.back;
        int common = commonDivisor(100, stays);
        return power((part == 0 ? stays : 100) / Math.max(common, 1), n);
    }

    private static int commonDivisor(int a, int b) {
        int great = a;
        int small = b;
        for (int i = 0; i < 64 && small > 0; i++) {
            int rest = great % small;
            great = small;
            small = rest;
        }
        return great;
    }

    private static int power(int base, int exponent) {
        int product = 1;
        for (int i = 0; i < exponent; i++) {
            product *= base;
        }
        return product;
    }

    public int lies(int i) {
        return i < 0 || i >= lyingCount ? NONE : lying[i];
    }

    public int heard(int item, int verdict, boolean is) {
        if (!court.hasCase(item) || verdict < -9999 || verdict > 9999 || court.web.pleas == 0) {
            return NONE;
        }
        return hearsay.tell(item, verdict, is);
    }

    public boolean untell(int heard) {
        return hearsay.takeBack(heard);
    }

    public int later(int by) {
        return hearsay.goOn(by);
    }

    public int fits(int k) {
        return Integer.bitCount(hearsay.fitting(court.web, k));
    }

    public int sure(int what, int k) {
        int fitting = hearsay.fitting(court.web, k);
        if (fitting == 0 || what < 0 || what > 1) {
            return NONE;
        }
        return what == 0 ? hearsay.leastOf(fitting) : hearsay.greatestOf(fitting);
    }

    public int ask(int what, int k) {
        int fitting = hearsay.fitting(court.web, k);
        if (fitting == 0 || court.web.cases == 0 || what < 0 || what > 1) {
            return NONE;
        }
        int item = hearsay.caseToAsk(court.web, fitting);
        return what == 0 ? item : hearsay.mostLeft(court.web, item, fitting);
    }

    public int image(int box) {
        if (box < 0 || box >= BOXES) {
            return NONE;
        }
        copyRow(court.row, boxes[box]);
        boxesKept |= 1 << box;
        return court.row[HOUR];
    }

    public int restore(int box) {
        if (box < 0 || box >= BOXES || (boxesKept >> box & 1) == 0) {
            return NONE;
        }
        copyRow(boxes[box], court.row);
        acts.clear();
        return court.row[HOUR];
    }

    public int about(int what) {
        switch (what) {
            case 0:
                return court.web.cases;
            case 1:
                return court.web.knots;
            case 2:
                return court.web.lines;
            case 3:
                return court.web.pleas;
            case 4:
                return court.row[AT];
            case 5:
                return court.row[HOUR];
            case 6:
                return court.row[WAS_HEARD];
            case 7:
                return court.row[SEED];
            case 15:
                return court.row[STICKY];
            default:
                return aboutRest(what);
        }
    }

    private int aboutRest(int what) {
        switch (what) {
            case 8:
                return acts.done;
            case 9:
                return acts.undone;
            case 10:
                return hearsay.count;
            case 11:
                return hearsay.time;
            case 12:
                return tape.length;
            case 13:
                return court.web.law.units;
            case 14:
                return lyingCount;
            default:
                return NONE;
        }
    }

    private static void copyRow(int[] from, int[] to) {
        for (int i = 0; i < from.length && i < to.length; i++) {
            to[i] = from[i];
        }
    }

    /** The bytes that were fed, and the TOKEN at which their reading has come. */
    private static final class Tape {
        private final byte[] bytes = new byte[MAX_BYTES];
        int length;
        private int next;
        int start;
        int kind;
        long word;
        int number;

        void put(int four) {
            for (int shift = 24; shift >= 0 && length < MAX_BYTES; shift -= 8) {
                bytes[length] = (byte) (four >> shift);
                length++;
            }
        }

        void rewind() {
            next = 0;
            advance();
        }

        void advance() {
            while (next < length && isBlank(bytes[next])) {
                next++;
            }
            start = next;
            if (next >= length) {
                kind = END;
            } else if (isLetter(bytes[next])) {
                scanWord();
                kind = next - start > 8 ? NO_TOKEN : wordKind();
            } else if (isDigit(bytes[next])) {
                scanNumber();
            } else {
                kind = isSign(bytes[next]) ? bytes[next] : NO_TOKEN;
                next++;
            }
        }

        // Eight letters of five bits fit into a long, so that no word needs a text of its own.
        private void scanWord() {
            word = 0;
            while (next < length && isLetter(bytes[next])) {
                word = word * 32 + bytes[next] - 'a' + 1;
                next++;
            }
        }

        private void scanNumber() {
            number = 0;
            while (next < length && isDigit(bytes[next])) {
                number = number * 10 + bytes[next] - '0';
                next++;
            }
            boolean letterBehind = next < length && isLetter(bytes[next]);
            kind = next - start > 4 || letterBehind ? NO_TOKEN : NUMBER;
        }

        private int wordKind() {
            long listed = 0;
            int place = 1;
            for (int i = 0; i < WORDS.length(); i++) {
                char sign = WORDS.charAt(i);
                if (sign != ' ') {
                    listed = listed * 32 + sign - 'a' + 1;
                } else if (listed == word) {
                    return place;
                } else {
                    listed = 0;
                    place++;
                }
            }
            return NAME;
        }

        private static boolean isBlank(int sign) {
            return sign == 32 || sign == 10;
        }

        private static boolean isLetter(int sign) {
            return sign >= 'a' && sign <= 'z';
        }

        private static boolean isDigit(int sign) {
            return sign >= '0' && sign <= '9';
        }

        private static boolean isSign(int sign) {
            return sign > 0 && ";()<>=+-*/%".indexOf((char) sign) >= 0;
        }
    }

    /** The formula of the law, as it is reckoned: numbers, and behind its parts each sign (as -kind). */
    private static final class Law {
        // 30 units and 29 signs between them, and at most 7 nots ahead of each unit.
        private static final int MAX_CODES = 300;
        private static final int MAX_UNITS = 30;

        private final int[] codes = new int[MAX_CODES];
        private final int[] stack = new int[MAX_UNITS + 1];
        private int length;
        private int top;
        int units;
        private int pleads;
        private int many;
        private int before;
        private int stays;
        private int kin;
        private int hour;

        void clear() {
            length = 0;
            units = 0;
        }

        boolean isFull() {
            return units >= MAX_UNITS;
        }

        void add(int code) {
            if (length < MAX_CODES) {
                codes[length] = code;
                length++;
            }
        }

        int value(int pleads, int many, int before, int stays, int kin, int hour) {
            if (length == 0) {
                return pleads - 5 - before * 2;
            }
            this.pleads = pleads;
            this.many = many;
            this.before = before;
            this.stays = stays;
            this.kin = kin;
            this.hour = hour;
            top = 0;
            for (int i = 0; i < length; i++) {
                int code = codes[i];
                if (code >= 0) {
                    push(code);
                } else if (isGiven(-code)) {
                    push(given(-code));
                } else if (code == -WORD_NOT) {
                    push(pop() == 0 ? 1 : 0);
                } else {
                    int right = pop();
                    int left = pop();
                    push(joined(left, -code, right));
                }
            }
            return pop();
        }

        private void push(int value) {
            if (top < stack.length) {
                stack[top] = value;
                top++;
            }
        }

        private int pop() {
            if (top <= 0) {
                return 0;
            }
            top--;
            return stack[top];
        }

        static boolean isGiven(int kind) {
            return kind == WORD_PLEADS || kind >= WORD_MANY && kind <= WORD_HOUR;
        }

        private int given(int kind) {
            switch (kind) {
                case WORD_PLEADS:
                    return pleads;
                case WORD_MANY:
                    return many;
                case WORD_BEFORE:
                    return before;
                case WORD_STAYS:
                    return stays;
                case WORD_KIN:
                    return kin;
                default:
                    return hour;
            }
        }

        private static int joined(int left, int sign, int right) {
            switch (sign) {
                case WORD_OR:
                    return left != 0 || right != 0 ? 1 : 0;
                case WORD_AND:
                    return left != 0 && right != 0 ? 1 : 0;
                case '<':
                    return left < right ? 1 : 0;
                case '>':
                    return left > right ? 1 : 0;
                case '=':
                    return left == right ? 1 : 0;
                case '+':
                    return left + right;
                case '-':
                    return left - right;
                case '*':
                    return left * right;
                case '/':
                    return right == 0 ? 0 : left / right;
                default:
                    return right == 0 ? 0 : left % right;
            }
        }
    }

    /** What a text tells: all that no ACT changes, and how the rest is at first. */
    private static final class Web {
        final long[] knotNames = new long[MAX_KNOTS];
        final long[] pleaNames = new long[MAX_PLEAS];
        final long[] caseNames = new long[MAX_CASES];
        final int[] lineFrom = new int[MAX_LINES];
        final int[] lineTo = new int[MAX_LINES];
        final int[] strong = new int[MAX_PLEAS];
        final int[] caseKnots = new int[MAX_CASES];
        final int[] casePleas = new int[MAX_CASES];
        final Law law = new Law();
        int knots;
        int lines;
        int pleas;
        int cases;
        int sticky;
        int bench;
        int back;
        int draw;
        int toldOnce;

        void clear() {
            law.clear();
            knots = 0;
            lines = 0;
            pleas = 0;
            cases = 0;
            sticky = 0;
            bench = 0;
            back = 0;
            draw = 0;
            toldOnce = 0;
        }

        boolean hasLine(int a, int b) {
            for (int i = 0; i < lines; i++) {
                if (lineFrom[i] == a && lineTo[i] == b || lineFrom[i] == b && lineTo[i] == a) {
                    return true;
                }
            }
            return false;
        }

        int strengthOf(int set) {
            int sum = 0;
            for (int i = 0; i < pleas; i++) {
                if ((set >> i & 1) != 0) {
                    sum += strong[i];
                }
            }
            return sum;
        }

        /** How many other CASES of a set are told to be at the KNOT of this one. */
        int kinOf(int item, int among) {
            int kin = 0;
            for (int i = 0; i < cases; i++) {
                if (i != item && (among >> i & 1) != 0 && caseKnots[i] == caseKnots[item]) {
                    kin++;
                }
            }
            return kin;
        }

        /** VERDICT in the web as it was told, were the last PLEA so strong. */
        int firstVerdict(int item, int lastStrong) {
            int set = casePleas[item];
            int last = pleas > 0 ? 1 << (pleas - 1) : 0;
            int sum = strengthOf(set & ~last);
            if ((set & last) != 0) {
                sum += lastStrong;
            }
            return law.value(sum, Integer.bitCount(set), 0, 0, kinOf(item, (1 << cases) - 1), 0);
        }
    }

    /** Reads the text on the TAPE, line by line; the first FAULT ends it. */
    private static final class Reader {
        private final Tape tape;
        private Web web;
        int fault;
        int place;

        Reader(Tape tape, Web web) {
            this.tape = tape;
            this.web = web;
            place = NONE;
        }

        boolean read(Web into) {
            web = into;
            web.clear();
            fault = 0;
            place = NONE;
            tape.rewind();
            boolean right = true;
            for (int i = 0; i <= MAX_BYTES && right && tape.kind != END; i++) {
                right = readLine() && skip(';');
            }
            return right;
        }

        private boolean readLine() {
            switch (tape.kind) {
                case WORD_KNOT:
                    return readKnot();
                case WORD_LINE:
                    return readThread();
                case WORD_PLEA:
                    return readPlea();
                case WORD_CASE:
                    return readCase();
                case WORD_BENCH:
                    return readBench();
                case WORD_LAW:
                    return openOnce() && readFormula(0);
                case WORD_BACK:
                    return readBack();
                case WORD_DRAW:
                    return readDraw();
                default:
                    return refuse(FAULT_PLACE);
            }
        }

        // A byte that begins no TOKEN is the least FAULT at its place, whatever was wanted there.
        private boolean refuse(int number) {
            fault = tape.kind == NO_TOKEN ? FAULT_TOKEN : number;
            place = tape.start;
            return false;
        }

        private boolean skip(int kind) {
            if (tape.kind != kind) {
                return refuse(FAULT_PLACE);
            }
            tape.advance();
            return true;
        }

        /** Steps over the first word of a line of which there is room for one more. */
        private boolean openSort(int count, int most) {
            if (count >= most) {
                return refuse(FAULT_PLACE);
            }
            tape.advance();
            return true;
        }

        private boolean openOnce() {
            int bit = 1 << tape.kind;
            if ((web.toldOnce & bit) != 0) {
                return refuse(FAULT_PLACE);
            }
            web.toldOnce |= bit;
            tape.advance();
            return true;
        }

        private boolean newName(long[] names, int count) {
            if (tape.kind != NAME) {
                return refuse(FAULT_PLACE);
            }
            if (indexOf(names, count, tape.word) != NONE) {
                return refuse(FAULT_TWICE);
            }
            if (count < names.length) {
                names[count] = tape.word;
            }
            tape.advance();
            return true;
        }

        /** The number of the NAME here, which is not stepped over; NONE: refused. */
        private int knownName(long[] names, int count) {
            int index = NONE;
            if (tape.kind != NAME) {
                refuse(FAULT_PLACE);
            } else {
                index = indexOf(names, count, tape.word);
                if (index == NONE) {
                    refuse(FAULT_UNKNOWN);
                }
            }
            return index;
        }

        private static int indexOf(long[] names, int count, long word) {
            for (int i = 0; i < count && i < names.length; i++) {
                if (names[i] == word) {
                    return i;
                }
            }
            return NONE;
        }

        /** The number here, stepped over; NONE: refused. */
        private int numberTo(int most) {
            int number = NONE;
            if (tape.kind != NUMBER) {
                refuse(FAULT_PLACE);
            } else if (tape.number > most) {
                refuse(FAULT_NUMBER);
            } else {
                number = tape.number;
                tape.advance();
            }
            return number;
        }

        private boolean readKnot() {
            if (!openSort(web.knots, MAX_KNOTS) || !newName(web.knotNames, web.knots)) {
                return false;
            }
            web.knots++;
            return true;
        }

        private boolean readThread() {
            if (!openSort(web.lines, MAX_LINES)) {
                return false;
            }
            int from = knownName(web.knotNames, web.knots);
            if (from == NONE) {
                return false;
            }
            tape.advance();
            int to = knownName(web.knotNames, web.knots);
            if (to == NONE) {
                return false;
            }
            if (to == from || web.hasLine(from, to)) {
                return refuse(FAULT_TWICE);
            }
            tape.advance();
            web.lineFrom[web.lines] = from;
            web.lineTo[web.lines] = to;
            if (tape.kind == WORD_STICKY) {
                web.sticky |= 1 << web.lines;
                tape.advance();
            }
            web.lines++;
            return true;
        }

        private boolean readPlea() {
            if (!openSort(web.pleas, MAX_PLEAS) || !newName(web.pleaNames, web.pleas) || !skip(WORD_STRONG)) {
                return false;
            }
            int strong = numberTo(20);
            if (strong == NONE) {
                return false;
            }
            web.strong[web.pleas] = strong;
            web.pleas++;
            return true;
        }

        private boolean readCase() {
            if (!openSort(web.cases, MAX_CASES) || !newName(web.caseNames, web.cases) || !skip(WORD_AT)) {
                return false;
            }
            int knot = knownName(web.knotNames, web.knots);
            if (knot == NONE) {
                return false;
            }
            tape.advance();
            if (!skip(WORD_PLEADS)) {
                return false;
            }
            int set = readPleas();
            if (set == 0) {
                return false;
            }
            web.caseKnots[web.cases] = knot;
            web.casePleas[web.cases] = set;
            web.cases++;
            return true;
        }

        /** The PLEAS of a CASE as bits, up to the sign behind them; 0: refused. */
        private int readPleas() {
            int set = 0;
            for (int count = 0; count <= MAX_CASE_PLEAS && (count == 0 || tape.kind == NAME); count++) {
                if (count == MAX_CASE_PLEAS) {
                    refuse(FAULT_PLACE);
                    return 0;
                }
                int plea = knownName(web.pleaNames, web.pleas);
                if (plea == NONE) {
                    return 0;
                }
                if ((set >> plea & 1) != 0) {
                    refuse(FAULT_TWICE);
                    return 0;
                }
                set |= 1 << plea;
                tape.advance();
            }
            return set;
        }

        private boolean readBench() {
            if (!openOnce()) {
                return false;
            }
            int knot = knownName(web.knotNames, web.knots);
            if (knot == NONE) {
                return false;
            }
            web.bench = knot;
            tape.advance();
            return true;
        }

        private boolean readBack() {
            if (!openOnce()) {
                return false;
            }
            web.back = numberTo(100);
            return web.back != NONE;
        }

        private boolean readDraw() {
            if (!openOnce()) {
                return false;
            }
            web.draw = numberTo(999);
            return web.draw != NONE;
        }

        // Each of these takes how many ( e ) and ones behind a not it stands within.
        private boolean readFormula(int within) {
            boolean right = readBoth(within);
            for (int i = 0; i < MAX_BYTES && right && tape.kind == WORD_OR; i++) {
                tape.advance();
                right = readBoth(within);
                web.law.add(-WORD_OR);
            }
            return right;
        }

        private boolean readBoth(int within) {
            boolean right = readOne(within);
            for (int i = 0; i < MAX_BYTES && right && tape.kind == WORD_AND; i++) {
                tape.advance();
                right = readOne(within);
                web.law.add(-WORD_AND);
            }
            return right;
        }

        private boolean readOne(int within) {
            if (tape.kind == WORD_NOT) {
                return readNot(within);
            }
            if (!readSum(within)) {
                return false;
            }
            int sign = tape.kind;
            if (sign != '<' && sign != '>' && sign != '=') {
                return true;
            }
            tape.advance();
            boolean right = readSum(within);
            web.law.add(-sign);
            return right;
        }

        private boolean readNot(int within) {
            if (within > 6) {
                return refuse(FAULT_PLACE);
            }
            tape.advance();
            boolean right = readOne(within + 1);
            web.law.add(-WORD_NOT);
            return right;
        }

        private boolean readSum(int within) {
            boolean right = readProduct(within);
            for (int i = 0; i < MAX_BYTES && right && (tape.kind == '+' || tape.kind == '-'); i++) {
                int sign = tape.kind;
                tape.advance();
                right = readProduct(within);
                web.law.add(-sign);
            }
            return right;
        }

        private boolean readProduct(int within) {
            boolean right = readUnit(within);
            for (int i = 0; i < MAX_BYTES && right && isTimes(tape.kind); i++) {
                int sign = tape.kind;
                tape.advance();
                right = readUnit(within);
                web.law.add(-sign);
            }
            return right;
        }

        private static boolean isTimes(int kind) {
            return kind == '*' || kind == '/' || kind == '%';
        }

        private boolean readUnit(int within) {
            int kind = tape.kind;
            if (web.law.isFull() || kind != NUMBER && kind != '(' && !Law.isGiven(kind)) {
                return refuse(FAULT_PLACE);
            }
            web.law.units++;
            if (kind == '(') {
                return readInner(within);
            }
            web.law.add(kind == NUMBER ? tape.number : -kind);
            tape.advance();
            return true;
        }

        private boolean readInner(int within) {
            if (within > 6) {
                return refuse(FAULT_PLACE);
            }
            tape.advance();
            return readFormula(within + 1) && skip(')');
        }
    }

    /** The web and its row now: who is where and how, the HOURS and the HEARINGS. */
    private static final class Court {
        final int[] row = new int[ROW];
        Web web;

        Court(Web web) {
            this.web = web;
            row[AT] = NONE;
        }

        void open(Web told) {
            web = told;
            row[AT] = told.knots > 0 ? told.bench : NONE;
            row[HOUR] = 0;
            row[WAS_HEARD] = 0;
            row[SEED] = told.draw;
            row[STICKY] = told.sticky;
            for (int i = 0; i < MAX_CASES; i++) {
                row[STATE + i] = HELD;
                row[PLEAS + i] = i < told.cases ? told.casePleas[i] : 0;
                row[BEFORE + i] = 0;
                row[STAYED + i] = 0;
            }
        }

        boolean hasKnot(int knot) {
            return knot >= 0 && knot < web.knots;
        }

        boolean hasPlea(int plea) {
            return plea >= 0 && plea < web.pleas;
        }

        boolean hasCase(int item) {
            return item >= 0 && item < web.cases;
        }

        boolean isHeld(int item) {
            return hasCase(item) && row[STATE + item] == HELD;
        }

        boolean pleads(int item, int plea) {
            return (row[PLEAS + item] >> plea & 1) != 0;
        }

        int held() {
            int set = 0;
            for (int i = 0; i < web.cases; i++) {
                if (row[STATE + i] == HELD) {
                    set |= 1 << i;
                }
            }
            return set;
        }

        int heldAt(int knot) {
            int set = 0;
            for (int i = 0; i < web.cases; i++) {
                if (row[STATE + i] == HELD && web.caseKnots[i] == knot) {
                    set |= 1 << i;
                }
            }
            return set;
        }

        int nextTo(int knot, boolean sticky) {
            int set = 0;
            for (int i = 0; i < web.lines; i++) {
                boolean isSticky = (row[STICKY] >> i & 1) != 0;
                if (isSticky != sticky) {
                    continue;
                }
                if (web.lineFrom[i] == knot) {
                    set |= 1 << web.lineTo[i];
                } else if (web.lineTo[i] == knot) {
                    set |= 1 << web.lineFrom[i];
                }
            }
            return set;
        }

        int judgedAs(int item, int pleas, int before, int stays, int hour) {
            int kin = web.kinOf(item, held());
            return web.law.value(web.strengthOf(pleas), Integer.bitCount(pleas), before, stays, kin, hour);
        }

        int judged(int item, int pleas) {
            return judgedAs(item, pleas, row[BEFORE + item], row[STAYED + item], row[HOUR]);
        }

        int judgedNow(int item) {
            return judgedAs(item, row[PLEAS + item], row[BEFORE + item], row[STAYED + item], row[HOUR]);
        }

        boolean canGo(int knot) {
            return hasKnot(knot) && row[HOUR] < MAX_HOURS
                    && (knot == row[AT] || (nextTo(knot, false) >> row[AT] & 1) != 0);
        }

        /** An HOUR: who comes back, as bits. */
        int go(int knot) {
            row[AT] = knot;
            row[HOUR]++;
            row[WAS_HEARD] = 0;
            int back = 0;
            for (int i = 0; i < web.cases; i++) {
                if (row[STATE + i] == LET_OFF && drawsBack()) {
                    row[STATE + i] = HELD;
                    back |= 1 << i;
                }
            }
            return back;
        }

        private boolean drawsBack() {
            row[SEED] = (row[SEED] * 137 + 71) % 1000;
            return row[SEED] % 100 < web.back;
        }

        boolean canBeHeard(int item) {
            return isHeld(item) && web.caseKnots[item] == row[AT] && row[WAS_HEARD] == 0;
        }

        /** A HEARING: 0 it STAYS, 1 LET OFF, 2 KEPT. */
        int decide(int item) {
            int verdict = judgedNow(item);
            row[WAS_HEARD] = 1;
            if (verdict == 0) {
                row[STAYED + item] = Math.min(row[STAYED + item] + 1, 99);
                return 0;
            }
            row[STATE + item] = verdict > 0 ? LET_OFF : KEPT;
            if (verdict > 0) {
                row[BEFORE + item] = Math.min(row[BEFORE + item] + 1, 99);
            }
            return row[STATE + item];
        }
    }

    /** Rows as they were ahead of ACTS; the row of now is put by only when an ACT is taken back. */
    private static final class Acts {
        private static final int MAX_ACTS = 40;
        private static final int ROWS = MAX_ACTS + 1;

        private final int[][] rows = new int[ROWS][ROW];
        private int first;
        int done;
        int undone;

        void clear() {
            done = 0;
            undone = 0;
        }

        void keep(int[] row) {
            copyRow(row, rows[(first + done) % ROWS]);
            undone = 0;
            if (done < MAX_ACTS) {
                done++;
            } else {
                first = (first + 1) % ROWS;
            }
        }

        boolean takeBack(int[] row) {
            if (done == 0) {
                return false;
            }
            copyRow(row, rows[(first + done) % ROWS]);
            done--;
            undone++;
            copyRow(rows[(first + done) % ROWS], row);
            return true;
        }

        boolean doAgain(int[] row) {
            if (undone == 0) {
                return false;
            }
            done++;
            undone--;
            copyRow(rows[(first + done) % ROWS], row);
            return true;
        }
    }

    /** HOURS between KNOTS by LINES that are not sticky. */
    private static final class Ways {
        static final int FAR = 1000;

        private final Court court;
        private final int[] between = new int[MAX_KNOTS * MAX_KNOTS];

        Ways(Court court) {
            this.court = court;
        }

        int hours(int from, int to) {
            if (!court.hasKnot(from) || !court.hasKnot(to)) {
                return FAR;
            }
            return between[from * MAX_KNOTS + to];
        }

        void measure() {
            for (int from = 0; from < MAX_KNOTS; from++) {
                int next = court.nextTo(from, false);
                for (int to = 0; to < MAX_KNOTS; to++) {
                    int step = (next >> to & 1) != 0 ? 1 : FAR;
                    between[from * MAX_KNOTS + to] = from == to ? 0 : step;
                }
            }
            for (int over = 0; over < MAX_KNOTS; over++) {
                shortenOver(over);
            }
        }

        private void shortenOver(int over) {
            for (int from = 0; from < MAX_KNOTS; from++) {
                for (int to = 0; to < MAX_KNOTS; to++) {
                    int around = between[from * MAX_KNOTS + over] + between[over * MAX_KNOTS + to];
                    if (around < between[from * MAX_KNOTS + to]) {
                        between[from * MAX_KNOTS + to] = around;
                    }
                }
            }
        }

        /** Puts the KNOTS of the first WAY into a list, behind measure(): how many. */
        int walk(int to, int[] list) {
            int at = court.row[AT];
            int left = hours(at, to);
            int count = 0;
            while (count < list.length && left >= 0 && left < FAR) {
                list[count] = at;
                count++;
                left--;
                at = stepNearer(at, to, left);
            }
            return count;
        }

        private int stepNearer(int at, int to, int left) {
            int next = court.nextTo(at, false);
            for (int knot = 0; knot < court.web.knots; knot++) {
                if ((next >> knot & 1) != 0 && hours(knot, to) == left) {
                    return knot;
                }
            }
            return at;
        }

        /** KNOTS SHE can come to, were these LINES sticky. */
        int reached(int sticky) {
            int seen = court.row[AT] == NONE ? 0 : 1 << court.row[AT];
            for (int i = 0; i < MAX_KNOTS; i++) {
                for (int line = 0; line < court.web.lines; line++) {
                    int ends = 1 << court.web.lineFrom[line] | 1 << court.web.lineTo[line];
                    if ((sticky >> line & 1) == 0 && (seen & ends) != 0) {
                        seen |= ends;
                    }
                }
            }
            return seen;
        }

        int knotsWithout(int line) {
            return Integer.bitCount(reached(court.row[STICKY] | 1 << line));
        }

        int bridgeLine() {
            int best = NONE;
            int fewest = MAX_KNOTS + 1;
            for (int line = 0; line < court.web.lines; line++) {
                if ((court.row[STICKY] >> line & 1) != 0) {
                    continue;
                }
                int knots = knotsWithout(line);
                if (knots < fewest) {
                    fewest = knots;
                    best = line;
                }
            }
            return best;
        }
    }

    /** In how many HOURS sets of CASES can be heard. */
    private static final class Rounds {
        private static final int SETS = 1 << MAX_CASES;

        private final Court court;
        private final Ways ways;
        // For each set and CASE: the fewest HOURS to hear the set when that CASE was heard just now.
        private final int[] behind = new int[SETS * MAX_CASES];

        Rounds(Court court, Ways ways) {
            this.court = court;
            this.ways = ways;
        }

        void measure() {
            ways.measure();
            int sets = 1 << court.web.cases;
            for (int set = 0; set < sets && set < SETS; set++) {
                for (int last = 0; last < court.web.cases; last++) {
                    behind[set * MAX_CASES + last] = set == 0 ? 0 : hoursFrom(set, last);
                }
            }
        }

        int fewestHours(int set) {
            return set == 0 ? 0 : hoursFrom(set, NONE);
        }

        private int hoursFrom(int set, int last) {
            int fewest = Ways.FAR;
            for (int item = 0; item < court.web.cases; item++) {
                if ((set >> item & 1) != 0) {
                    fewest = Math.min(fewest, hoursBy(set, last, item));
                }
            }
            return fewest;
        }

        /** The HOURS to hear a set, this CASE of it first, behind the last one (NONE: from now). */
        private int hoursBy(int set, int last, int item) {
            int from = court.row[AT];
            int least = court.row[WAS_HEARD];
            if (last != NONE) {
                from = court.web.caseKnots[last];
                least = 1;
            }
            int step = Math.max(least, ways.hours(from, court.web.caseKnots[item]));
            return Math.min(Ways.FAR, step + behind[(set & ~(1 << item)) * MAX_CASES + item]);
        }

        /** Puts a set into a list in the first order of the fewest HOURS: how many. */
        int order(int set, int[] list) {
            int left = set;
            int last = NONE;
            int count = 0;
            while (left != 0 && count < list.length) {
                last = firstBest(left, last);
                list[count] = last;
                count++;
                left &= ~(1 << last);
            }
            return count;
        }

        private int firstBest(int set, int last) {
            int best = 0;
            int fewest = Ways.FAR + 1;
            for (int item = 0; item < court.web.cases; item++) {
                if ((set >> item & 1) == 0) {
                    continue;
                }
                int hours = hoursBy(set, last, item);
                if (hours < fewest) {
                    fewest = hours;
                    best = item;
                }
            }
            return best;
        }

        int mostHeard(int held, int hours) {
            int most = 0;
            for (int set = 0; set < SETS; set++) {
                if ((set & ~held) == 0 && Integer.bitCount(set) > most && fewestHours(set) <= hours) {
                    most = Integer.bitCount(set);
                }
            }
            return most;
        }
    }

    /** What would come of other PLEAS, hours or times, by what is now. */
    private static final class Counsel {
        private final Court court;
        private final int[] alone = new int[MAX_PLEAS];
        private final int[] otherAlone = new int[MAX_PLEAS];

        Counsel(Court court) {
            this.court = court;
        }

        /** SHORT among these PLEAS, as bits; 0 if by none. */
        int fewestPleas(int item, int allowed) {
            int best = 0;
            int fewest = MAX_CASE_PLEAS + 1;
            for (int set = 1; set < 1 << MAX_PLEAS; set++) {
                if ((set & ~allowed) == 0 && Integer.bitCount(set) < fewest && court.judged(item, set) > 0) {
                    best = set;
                    fewest = Integer.bitCount(set);
                }
            }
            return best;
        }

        int withoutHope() {
            int all = (1 << court.web.pleas) - 1;
            int set = 0;
            for (int i = 0; i < court.web.cases; i++) {
                if (court.isHeld(i) && fewestPleas(i, all) == 0) {
                    set |= 1 << i;
                }
            }
            return set;
        }

        int hearingsTillFree(int item) {
            int[] row = court.row;
            for (int past = 0; past < 30; past++) {
                int stays = Math.min(row[STAYED + item] + past, 99);
                int verdict = court.judgedAs(item, row[PLEAS + item], row[BEFORE + item], stays, row[HOUR] + past);
                if (verdict != 0) {
                    return verdict > 0 ? past + 1 : NONE;
                }
            }
            return NONE;
        }

        /** The CONTRARY two as one number (first * MAX_CASES + other), or NONE. */
        int contraries() {
            for (int i = 0; i < court.web.cases; i++) {
                for (int j = i + 1; j < court.web.cases; j++) {
                    if (court.isHeld(i) && court.isHeld(j) && court.row[PLEAS + i] == court.row[PLEAS + j]
                            && outcome(i) != outcome(j)) {
                        return i * MAX_CASES + j;
                    }
                }
            }
            return NONE;
        }

        private int outcome(int item) {
            return Integer.compare(court.judgedNow(item), 0);
        }

        /** How many RESTS; the PLEAS of the first one are put into a list. */
        int rests(int item, int other, int[] list) {
            int pleas = court.web.pleas;
            for (int i = 0; i < pleas; i++) {
                alone[i] = court.judged(item, 1 << i);
                otherAlone[i] = court.judged(other, 1 << i);
            }
            int same = court.judged(item, 0);
            int otherSame = court.judged(other, 0);
            int count = 0;
            for (int mine = 0; mine < pleas; mine++) {
                for (int his = 0; his < pleas; his++) {
                    if (!isBest(alone, same, mine, his) || !isBest(otherAlone, otherSame, his, mine)) {
                        continue;
                    }
                    if (count == 0 && list.length >= 2) {
                        list[0] = mine;
                        list[1] = his;
                    }
                    count++;
                }
            }
            return count;
        }

        private boolean isBest(int[] values, int same, int mine, int his) {
            int got = mine == his ? same : values[mine];
            for (int i = 0; i < court.web.pleas; i++) {
                int instead = i == his ? same : values[i];
                if (instead > got) {
                    return false;
                }
            }
            return true;
        }

        int freeWithout(int plea) {
            int count = 0;
            for (int i = 0; i < court.web.cases; i++) {
                if (court.isHeld(i) && court.judged(i, court.row[PLEAS + i] & ~(1 << plea)) > 0) {
                    count++;
                }
            }
            return count;
        }

        int pleaToForbid() {
            int best = NONE;
            int fewest = MAX_CASES + 1;
            for (int plea = 0; plea < court.web.pleas; plea++) {
                int count = freeWithout(plea);
                if (count < fewest) {
                    fewest = count;
                    best = plea;
                }
            }
            return best;
        }

        int freeByExchange(int first, int other) {
            int count = 0;
            for (int i = 0; i < court.web.cases; i++) {
                int whose = i == first ? other : i == other ? first : i;
                if (court.isHeld(i) && court.judged(i, court.row[PLEAS + whose]) > 0) {
                    count++;
                }
            }
            return count;
        }

        /** The two whose exchange does most, as one number (first * MAX_CASES + other), or NONE. */
        int bestExchange() {
            int best = NONE;
            int most = freeByExchange(0, 0);
            for (int i = 0; i < court.web.cases; i++) {
                for (int j = i + 1; j < court.web.cases; j++) {
                    int count = court.isHeld(i) && court.isHeld(j) ? freeByExchange(i, j) : 0;
                    if (count > most) {
                        most = count;
                        best = i * MAX_CASES + j;
                    }
                }
            }
            return best;
        }

        int pleaToTakeUp(int item) {
            int has = court.row[PLEAS + item];
            if (Integer.bitCount(has) >= MAX_CASE_PLEAS) {
                return NONE;
            }
            int best = NONE;
            int greatest = 0;
            for (int plea = 0; plea < court.web.pleas; plea++) {
                if ((has >> plea & 1) != 0) {
                    continue;
                }
                int verdict = court.judged(item, has | 1 << plea);
                if (best == NONE || verdict > greatest) {
                    greatest = verdict;
                    best = plea;
                }
            }
            return best;
        }

        int freeNow() {
            int set = 0;
            for (int i = 0; i < court.web.cases; i++) {
                if (court.isHeld(i) && court.judgedNow(i) > 0) {
                    set |= 1 << i;
                }
            }
            return set;
        }

        int commonestPlea() {
            int best = NONE;
            int most = -1;
            for (int plea = 0; plea < court.web.pleas; plea++) {
                int count = 0;
                for (int i = 0; i < court.web.cases; i++) {
                    if (court.isHeld(i) && court.pleads(i, plea)) {
                        count++;
                    }
                }
                if (count > most) {
                    most = count;
                    best = plea;
                }
            }
            return best;
        }

        int greatestVerdict() {
            int best = NONE;
            int greatest = 0;
            for (int i = 0; i < court.web.cases; i++) {
                if (!court.isHeld(i)) {
                    continue;
                }
                int verdict = court.judgedNow(i);
                if (best == NONE || verdict > greatest) {
                    greatest = verdict;
                    best = i;
                }
            }
            return best;
        }

        int freeingHour(int item) {
            int[] row = court.row;
            for (int hour = 0; hour < 100; hour++) {
                if (court.judgedAs(item, row[PLEAS + item], row[BEFORE + item], row[STAYED + item], hour) > 0) {
                    return hour;
                }
            }
            return NONE;
        }

        int freeAfter(int before) {
            int[] row = court.row;
            int count = 0;
            for (int i = 0; i < court.web.cases; i++) {
                if (court.isHeld(i) && court.judgedAs(i, row[PLEAS + i], before, row[STAYED + i], row[HOUR]) > 0) {
                    count++;
                }
            }
            return count;
        }
    }

    /** What is HEARD, and how strong by it the last PLEA may have been. */
    private static final class Hearsay {
        private static final int MAX_HEARD = 30;
        private static final int MAX_TIME = 100000;
        private static final int MAX_STRONG = 30;

        private final int[] items = new int[MAX_HEARD];
        private final int[] verdicts = new int[MAX_HEARD];
        private final boolean[] are = new boolean[MAX_HEARD];
        private final int[] told = new int[MAX_HEARD];
        private final int[] untold = new int[MAX_HEARD];
        int count;
        int time;

        void clear() {
            count = 0;
        }

        int tell(int item, int verdict, boolean is) {
            if (count >= MAX_HEARD) {
                return NONE;
            }
            items[count] = item;
            verdicts[count] = verdict;
            are[count] = is;
            told[count] = time;
            untold[count] = NONE;
            count++;
            return count - 1;
        }

        boolean takeBack(int index) {
            if (index < 0 || index >= count || untold[index] != NONE) {
                return false;
            }
            untold[index] = time;
            return true;
        }

        int goOn(int by) {
            if (by < 0 || by > 1000 || time + by > MAX_TIME) {
                return NONE;
            }
            time += by;
            return time;
        }

        private boolean counts(int index, int at) {
            return told[index] <= at && (untold[index] == NONE || untold[index] > at);
        }

        /** FITS as bits, by what counts at a TIME. */
        int fitting(Web web, int at) {
            int set = 0;
            for (int strong = 0; strong <= MAX_STRONG && web.pleas > 0; strong++) {
                if (allIsSo(web, strong, at)) {
                    set |= 1 << strong;
                }
            }
            return set;
        }

        private boolean allIsSo(Web web, int strong, int at) {
            for (int item = 0; item < web.cases; item++) {
                int verdict = web.firstVerdict(item, strong);
                for (int i = 0; i < count; i++) {
                    if (items[i] == item && counts(i, at) && (verdict >= verdicts[i]) != are[i]) {
                        return false;
                    }
                }
            }
            return true;
        }

        int leastOf(int fitting) {
            for (int strong = 0; strong <= MAX_STRONG; strong++) {
                if ((fitting >> strong & 1) != 0) {
                    return strong;
                }
            }
            return NONE;
        }

        int greatestOf(int fitting) {
            for (int strong = MAX_STRONG; strong >= 0; strong--) {
                if ((fitting >> strong & 1) != 0) {
                    return strong;
                }
            }
            return NONE;
        }

        int mostLeft(Web web, int item, int fitting) {
            int free = 0;
            int stays = 0;
            int kept = 0;
            for (int strong = 0; strong <= MAX_STRONG; strong++) {
                if ((fitting >> strong & 1) == 0) {
                    continue;
                }
                int verdict = web.firstVerdict(item, strong);
                if (verdict > 0) {
                    free++;
                } else if (verdict == 0) {
                    stays++;
                } else {
                    kept++;
                }
            }
            return Math.max(free, Math.max(stays, kept));
        }

        int caseToAsk(Web web, int fitting) {
            int best = 0;
            int fewest = MAX_STRONG + 2;
            for (int item = 0; item < web.cases; item++) {
                int left = mostLeft(web, item, fitting);
                if (left < fewest) {
                    fewest = left;
                    best = item;
                }
            }
            return best;
        }
    }
}
