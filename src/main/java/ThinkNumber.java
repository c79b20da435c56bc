import java.util.Arrays;

/**
 * Rows of orders on hidden numbers: read, reckoned, judged, proved, guessed from, made to order
 * and played by hand. The document's words in capitals are meant where a comment uses them.
 */
public final class ThinkNumber {
    public static final int NONE = -1;
    public static final int SPENT = -2;

    private static final int NO_SUCH = -2;
    private static final long NO_VALUE = -10000000000000L;

    private static final int LETTERS = 4;
    private static final int TABLES_MAX = 4;
    private static final int CLAUSES_MAX = 24;
    private static final int NUMBER_MAX = 9999;
    /** An X that is a LETTER is held as this and the LETTER. */
    private static final int LETTER_BASE = 10000;

    private static final int CLAIMS_MAX = 24;
    private static final int HEARD_MAX = 6;
    private static final int KIT_MAX = 6;
    private static final int ASKS_MAX = 6;
    private static final int TOLD_UP_MAX = 1000000000;
    private static final int TOLD_LOW_MAX = 1000000;

    private static final long UP_MAX = 1000000000000L;
    private static final long LOW_MAX = 1000000L;

    private static final int ALL_MAX = 20000;
    private static final int MORE_MAX = 500;
    private static final int MADE_FROM_MAX = 100;
    private static final int MADE_MAX = 5;
    private static final int SLIPS = 3;
    private static final int KNOWN_MAX = 24;
    private static final int ASK_LEAST = 2;
    private static final int ASK_MOST = 30;
    /** Above every number of ASKS that can be needed, and far from wrapping when ones are added. */
    private static final int NEVER = 100;

    private static final int ADD = 0;
    private static final int TAKE = 1;
    private static final int TIMES = 2;
    private static final int BY = 3;
    private static final int REST = 4;
    private static final int JOIN = 5;
    private static final int TURN = 6;
    private static final int ACROSS = 7;
    private static final int STRIKE = 8;
    private static final int SAY = 9;
    private static final int HIDE = 10;

    private static final long[] TENS = {
        1L, 10L, 100L, 1000L, 10000L, 100000L, 1000000L, 10000000L, 100000000L, 1000000000L,
        10000000000L, 100000000000L, 1000000000000L, 10000000000000L
    };

    private final Tape tape;
    private final Reader reader;
    private final Table[] tables;
    private final State now;
    private final State kept;
    private final Value at;
    private final Value other;
    private final int[] maybe;
    private final Tally tally;
    private final Sum sum;
    private final Parting parting;
    private final Maker maker;

    public ThinkNumber() {
        tape = new Tape();
        reader = new Reader(tape);
        tables = new Table[TABLES_MAX];
        for (int i = 0; i < TABLES_MAX; i++) {
            tables[i] = new Table();
        }
        now = new State();
        kept = new State();
        at = new Value();
        other = new Value();
        maybe = new int[LETTERS];
        tally = new Tally();
        sum = new Sum();
        parting = new Parting();
        maker = new Maker();
    }

    public boolean think(int a, int b, int c, int d) {
        if (!isNumber(a) || !isNumber(b) || !isNumber(c) || !isNumber(d)) {
            return false;
        }
        now.thought[0] = a;
        now.thought[1] = b;
        now.thought[2] = c;
        now.thought[3] = d;
        return true;
    }

    public int feed(int a, int b, int c, int d, int e) {
        if (!tape.hasRoom()) {
            return NONE;
        }
        tape.append(a);
        tape.append(b);
        tape.append(c);
        tape.append(d);
        tape.append(e);
        return tape.length;
    }

    public int end(int n) {
        if (n < 0 || n > tape.length) {
            return NONE;
        }
        tape.length = n;
        return n;
    }

    public int table() {
        int number = now.tables;
        if (number >= TABLES_MAX) {
            return NONE;
        }
        boolean sound = reader.read(tables[number]);
        tape.length = 0;
        if (!sound) {
            return NONE;
        }
        now.tables = number + 1;
        return number;
    }

    public int fault(int what) {
        if (what == 0) {
            return reader.fault;
        }
        return what == 1 ? reader.place : NONE;
    }

    public int order(int table, int i, boolean x) {
        Table t = find(table);
        if (t == null) {
            return NONE;
        }
        if (i == NONE) {
            return t.orders.count;
        }
        if (!t.orders.has(i)) {
            return NONE;
        }
        return x ? t.orders.xs[i] : t.orders.kinds[i];
    }

    public int span(int table, int letter, boolean high) {
        Table t = find(table);
        if (t == null || !isLetter(letter)) {
            return NONE;
        }
        return high ? t.last[letter] : t.first[letter];
    }

    public long comes(int table, int i, boolean low) {
        Table t = find(table);
        if (t == null || (i != NONE && !t.orders.has(i))) {
            return NO_VALUE;
        }
        int wanted = i + 1;
        return t.run(wanted, now.thought, at) == wanted ? at.part(low) : NO_VALUE;
    }

    public int fails(int table) {
        Table t = find(table);
        if (t == null) {
            return NO_SUCH;
        }
        int done = t.run(t.orders.count, now.thought, at);
        return done < t.orders.count ? done : NONE;
    }

    public long said(int table, int i, boolean low) {
        Table t = find(table);
        if (t == null || i < 0) {
            return NO_VALUE;
        }
        int before = 0;
        t.begin(at, now.thought);
        for (int k = 0; k < t.orders.count; k++) {
            int kind = t.orders.kinds[k];
            if (!at.obey(kind, t.orders.amount(k, now.thought))) {
                return NO_VALUE;
            }
            if (kind == SAY) {
                if (before == i) {
                    return at.part(low);
                }
                before++;
            }
        }
        return NO_VALUE;
    }

    public int claim(int up, int down) {
        return now.claims.tell(up, down, at);
    }

    public int judge(int table) {
        Table t = find(table);
        if (t == null) {
            return NO_SUCH;
        }
        int asked = Math.min(t.orders.count, now.claims.count);
        t.begin(at, now.thought);
        for (int i = 0; i < asked; i++) {
            boolean can = at.obey(t.orders.kinds[i], t.orders.amount(i, now.thought));
            if (!can || !now.claims.holds(i, at)) {
                return i;
            }
        }
        return NONE;
    }

    public int same(int table) {
        Table t = find(table);
        if (t == null) {
            return NONE;
        }
        if (t.countAll() > ALL_MAX) {
            return SPENT;
        }
        return findUnlike(t) ? 0 : 1;
    }

    public int unlike(int table, int letter) {
        Table t = find(table);
        if (t == null || !isLetter(letter)) {
            return NONE;
        }
        if (t.countAll() > ALL_MAX) {
            return SPENT;
        }
        return findUnlike(t) ? maybe[letter] : NONE;
    }

    public long proof(int table, int what) {
        Table t = find(table);
        if (t == null || what < 0 || what > LETTERS + 1 || !sum.prove(t)) {
            return NO_VALUE;
        }
        return what <= LETTERS ? sum.parts[what] : sum.low;
    }

    public int hear(int up, int down) {
        return now.heard.tell(up, down, at);
    }

    public int fits(int table, int letter, int what) {
        Table t = find(table);
        if (t == null || (letter != NONE && (!isLetter(letter) || what < 0 || what > 2))) {
            return NONE;
        }
        long members = t.countAll();
        if (members > ALL_MAX) {
            return SPENT;
        }
        tally.clear();
        t.firstOfAll(maybe);
        for (int k = 0; k < members; k++) {
            if (t.saysJust(now.heard, maybe, at)) {
                tally.note(letter == NONE ? 0 : maybe[letter]);
            }
            t.nextOfAll(maybe);
        }
        return letter == NONE ? tally.count : tally.pick(what);
    }

    public int more(int table) {
        Table t = find(table);
        if (t == null) {
            return NONE;
        }
        long members = t.countAll();
        if (members > MORE_MAX) {
            return SPENT;
        }
        return parting.lowestTelling(t, (int) members, maybe, at);
    }

    public int kit(int kind, int x) {
        if (kind == NONE) {
            now.kit.count = 0;
            return 0;
        }
        if (kind < ADD || kind > ACROSS) {
            return NONE;
        }
        boolean asksX = kind < TURN;
        if (asksX && x != NONE && !isNumber(x)) {
            return NONE;
        }
        int held = !asksX ? 0 : x == NONE ? LETTER_BASE : x;
        return now.kit.add(kind, held) ? now.kit.count : NONE;
    }

    public int made(int low, int high, int end, int n, int i) {
        if (!isNumber(low) || !isNumber(high) || !isNumber(end) || n < 1 || n > MADE_MAX) {
            return NO_SUCH;
        }
        if (low > high || high - low >= MADE_FROM_MAX) {
            return NO_SUCH;
        }
        int orders = maker.fewest(now.kit, low, high, end, n);
        if (i == NONE) {
            return orders;
        }
        return i >= 0 && i < orders ? maker.chosen[i] : NO_SUCH;
    }

    public int slip(int table, int up, int down, int i) {
        Table t = find(table);
        if (t == null || !isTold(up, down)) {
            return NONE;
        }
        other.put(up, down);
        int found = 0;
        for (int number = 0; number < SLIPS * t.orders.count; number++) {
            if (t.runWithSlip(number, now.thought, at) && at.is(other.up, other.low)) {
                if (found == i) {
                    return number;
                }
                found++;
            }
        }
        return i == NONE ? found : NONE;
    }

    public int ask(int m) {
        if (m == 0) {
            now.askCount = 0;
            return 0;
        }
        if (m < ASK_LEAST || m > ASK_MOST || now.askCount >= ASKS_MAX) {
            return NONE;
        }
        now.asks[now.askCount] = m;
        now.askCount++;
        return now.askCount;
    }

    public int known(int n, boolean first) {
        if (n < 1 || n > KNOWN_MAX) {
            return NONE;
        }
        int set = (1 << n) - 1;
        int fewest = fewestAsks(set, 0);
        if (fewest >= NEVER) {
            return NONE;
        }
        return first ? lowestFirstAsk(set, fewest) : fewest;
    }

    public int rest(int m) {
        if (m < 1 || m > NUMBER_MAX || tape.marks() != 0) {
            return NONE;
        }
        return tape.restBy(m, 0);
    }

    public int struck(int m) {
        if (m < 1 || m > NUMBER_MAX || tape.marks() != 1) {
            return NONE;
        }
        int bits = 0;
        for (int figure = 0; figure < 10; figure++) {
            if (tape.restBy(m, figure) == 0) {
                bits |= 1 << figure;
            }
        }
        return bits;
    }

    public int play(int table) {
        Table t = find(table);
        if (t == null) {
            return NONE;
        }
        now.playedTable = table;
        now.trail.count = 0;
        t.begin(at, now.thought);
        now.trail.append(at);
        return t.orders.count;
    }

    public int go() {
        Table t = find(now.playedTable);
        int next = now.ordersPlayed();
        if (t == null || !t.orders.has(next)) {
            return NONE;
        }
        now.trail.readLast(at);
        boolean can = at.obey(t.orders.kinds[next], t.orders.amount(next, now.thought));
        return can && now.trail.append(at) ? next : NONE;
    }

    /** A ROW has at most 24 ORDERS, so each STEP of it is among the latest 30. */
    public int undo() {
        if (now.ordersPlayed() < 1) {
            return NONE;
        }
        now.trail.count--;
        return now.ordersPlayed();
    }

    public long value(boolean low) {
        now.trail.readLast(at);
        return at.part(low);
    }

    public int image() {
        kept.copyFrom(now);
        return now.ordersPlayed();
    }

    public int back() {
        now.copyFrom(kept);
        return now.ordersPlayed();
    }

    public int about(int what) {
        switch (what) {
            case 0:
                return now.tables;
            case 1:
                return now.playedTable;
            case 2:
            case 3:
                return now.ordersPlayed();
            case 4:
                return now.claims.count;
            case 5:
                return now.heard.count;
            case 6:
                return now.kit.count;
            case 7:
                return now.askCount;
            case 8:
                return tape.length;
            default:
                return what >= 10 && what < 10 + LETTERS ? now.thought[what - 10] : NO_SUCH;
        }
    }

    private Table find(int number) {
        return number >= 0 && number < now.tables && number < TABLES_MAX ? tables[number] : null;
    }

    /** Leaves in maybe the first of ALL by which the ROW doesn't end as by the first of them. */
    private boolean findUnlike(Table t) {
        long members = t.countAll();
        t.firstOfAll(maybe);
        for (int k = 0; k < members && k < ALL_MAX; k++) {
            if (!t.comesToEnd(maybe, at)) {
                return true;
            }
            if (k == 0) {
                other.copyFrom(at);
            }
            if (!at.is(other.up, other.low)) {
                return true;
            }
            t.nextOfAll(maybe);
        }
        return false;
    }

    /** The depth is kept by the ASKS: each level uses one more of the six. */
    private int fewestAsks(int set, int used) {
        if (Integer.bitCount(set) <= 1) {
            return 0;
        }
        int fewest = NEVER;
        for (int k = 0; k < now.askCount; k++) {
            if ((used & (1 << k)) == 0) {
                fewest = Math.min(fewest, 1 + mostAsksBehind(set, k, used));
            }
        }
        return fewest;
    }

    private int mostAsksBehind(int set, int k, int used) {
        int m = now.asks[k];
        int multiples = multiplesOf(m);
        int most = 0;
        for (int rest = 0; rest < m && rest < KNOWN_MAX; rest++) {
            int part = set & (multiples << rest);
            boolean tellsNothing = part == set;
            if (tellsNothing) {
                return NEVER;
            }
            most = Math.max(most, fewestAsks(part, used | (1 << k)));
        }
        return most;
    }

    private int lowestFirstAsk(int set, int fewest) {
        if (fewest == 0) {
            return NONE;
        }
        for (int k = 0; k < now.askCount; k++) {
            if (1 + mostAsksBehind(set, k, 0) == fewest) {
                return k;
            }
        }
        return NONE;
    }

    private static int multiplesOf(int m) {
        int bits = 0;
        for (int k = 0; k < KNOWN_MAX; k++) {
            if (m > 0 && k % m == 0) {
                bits |= 1 << k;
            }
        }
        return bits;
    }

    private static boolean isNumber(int n) {
        return n >= 0 && n <= NUMBER_MAX;
    }

    private static boolean isLetter(int letter) {
        return letter >= 0 && letter < LETTERS;
    }

    private static boolean isTold(int up, int down) {
        return up >= -TOLD_UP_MAX && up <= TOLD_UP_MAX && down >= 1 && down <= TOLD_LOW_MAX;
    }

    /** Numbers below 10 to the 17th are through in fewer than a hundred rounds. */
    private static long commonMeasure(long a, long b) {
        long x = Math.abs(a);
        long y = Math.abs(b);
        for (int round = 0; round < 100 && y != 0; round++) {
            long left = x % y;
            x = y;
            y = left;
        }
        return x;
    }

    private static int figuresOf(long whole) {
        for (int n = 1; n < TENS.length; n++) {
            if (whole < TENS[n]) {
                return n;
            }
        }
        return TENS.length;
    }

    private static final class Tape {
        private static final int MAX = 300;
        private static final int FED = 20;

        final byte[] bytes = new byte[MAX];
        int length;

        boolean hasRoom() {
            return length + FED <= MAX;
        }

        void append(int four) {
            for (int shift = 24; shift >= 0 && length < MAX; shift -= 8) {
                bytes[length] = (byte) (four >> shift);
                length++;
            }
        }

        /** How many ? the LONG number has; NONE if no LONG number lies here. */
        int marks() {
            int marks = 0;
            for (int i = 0; i < length; i++) {
                if (bytes[i] == '?') {
                    marks++;
                } else if (bytes[i] < '0' || bytes[i] > '9') {
                    return NONE;
                }
            }
            return length == 0 || marks > 1 ? NONE : marks;
        }

        int restBy(int m, int markedFigure) {
            int rest = 0;
            for (int i = 0; i < length && m > 0; i++) {
                int figure = bytes[i] == '?' ? markedFigure : bytes[i] - '0';
                rest = (rest * 10 + figure) % m;
            }
            return rest;
        }
    }

    /** Reads the tape as a TABLE, TOKEN by TOKEN, up to the first FAULT. */
    private static final class Reader {
        private static final int AT_END = 0;
        private static final int WORD = 1;
        private static final int DIGITS = 2;
        private static final int SEMICOLON = 3;
        private static final int BLANK = 4;
        private static final int STRANGE = 5;

        private final Tape tape;
        int fault = NONE;
        int place = NONE;
        private int sort;
        private int start;
        private int behind;
        /** The latest NUMBER or X that was read. */
        private int x;

        Reader(Tape tape) {
            this.tape = tape;
        }

        boolean read(Table into) {
            fault = 0;
            place = NONE;
            behind = 0;
            into.clear();
            for (int ahead = 0; ahead <= CLAUSES_MAX; ahead++) {
                advance();
                if (sort == AT_END) {
                    return true;
                }
                if (!readClause(into, ahead)) {
                    return false;
                }
            }
            return false;
        }

        private boolean readClause(Table into, int ahead) {
            int kind = kindOfWord();
            if (kind == NONE) {
                return refuse(1);
            }
            if (ahead >= CLAUSES_MAX) {
                return refuse(6);
            }
            if (kind == HIDE) {
                return readHide(into);
            }
            if (!readArgument(into, kind)) {
                return false;
            }
            return readSemicolon() && into.orders.add(kind, x);
        }

        private boolean readHide(Table into) {
            advance();
            int letter = letterOfWord();
            if (letter == NONE) {
                return refuse(1);
            }
            if (into.isHidden(letter)) {
                return refuse(3);
            }
            if (!readWord("from") || !readNumber(0, NUMBER_MAX)) {
                return false;
            }
            int first = x;
            if (!readWord("to") || !readNumber(0, NUMBER_MAX)) {
                return false;
            }
            if (x < first) {
                return refuse(5);
            }
            into.first[letter] = first;
            into.last[letter] = x;
            return readSemicolon();
        }

        private boolean readArgument(Table into, int kind) {
            x = 0;
            if (kind < TURN) {
                return readX(into);
            }
            return kind != STRIKE || readNumber(1, 9);
        }

        private boolean readX(Table into) {
            advance();
            if (sort == DIGITS) {
                x = numberOfDigits();
                return x <= NUMBER_MAX || refuse(2);
            }
            int letter = letterOfWord();
            if (letter == NONE) {
                return refuse(1);
            }
            x = LETTER_BASE + letter;
            return into.isHidden(letter) || refuse(4);
        }

        private boolean readNumber(int least, int most) {
            advance();
            if (sort != DIGITS) {
                return refuse(1);
            }
            x = numberOfDigits();
            return (x >= least && x <= most) || refuse(2);
        }

        private boolean readWord(String word) {
            advance();
            return (sort == WORD && spells(word)) || refuse(1);
        }

        private boolean readSemicolon() {
            advance();
            return sort == SEMICOLON || refuse(1);
        }

        private boolean refuse(int why) {
            fault = why;
            place = start;
            return false;
        }

        private void advance() {
            start = behind;
            while (start < tape.length && sortOf(tape.bytes[start]) == BLANK) {
                start++;
            }
            sort = start < tape.length ? sortOf(tape.bytes[start]) : AT_END;
            behind = sort == AT_END ? start : start + 1;
            boolean goesOn = sort == WORD || sort == DIGITS;
            while (goesOn && behind < tape.length && sortOf(tape.bytes[behind]) == sort) {
                behind++;
            }
        }

        private static int sortOf(byte b) {
            if ((b >= 'a' && b <= 'z') || (b >= 'A' && b <= 'Z')) {
                return WORD;
            }
            if (b >= '0' && b <= '9') {
                return DIGITS;
            }
            if (b == 32 || b == 10) {
                return BLANK;
            }
            return b == ';' ? SEMICOLON : STRANGE;
        }

        /** A number above 9999 grows no further: how far above isn't asked, and it can't wrap. */
        private int numberOfDigits() {
            int number = 0;
            for (int i = start; i < behind && number <= NUMBER_MAX; i++) {
                number = number * 10 + tape.bytes[i] - '0';
            }
            return number;
        }

        private int kindOfWord() {
            if (sort != WORD) {
                return NONE;
            }
            for (int kind = ADD; kind <= HIDE; kind++) {
                if (spells(wordOf(kind))) {
                    return kind;
                }
            }
            return NONE;
        }

        private int letterOfWord() {
            if (sort != WORD || behind - start != 1) {
                return NONE;
            }
            int letter = tape.bytes[start] - 'a';
            return isLetter(letter) ? letter : NONE;
        }

        private boolean spells(String word) {
            if (behind - start != word.length()) {
                return false;
            }
            for (int i = 0; i < word.length(); i++) {
                if (tape.bytes[start + i] != word.charAt(i)) {
                    return false;
                }
            }
            return true;
        }

        private static String wordOf(int kind) {
            switch (kind) {
                case ADD:
                    return "add";
                case TAKE:
                    return "take";
                case TIMES:
                    return "times";
                case BY:
                    return "by";
                case REST:
                    return "rest";
                case JOIN:
                    return "join";
                case TURN:
                    return "turn";
                case ACROSS:
                    return "across";
                case STRIKE:
                    return "strike";
                case SAY:
                    return "say";
                default:
                    return "hide";
            }
        }
    }

    /** A fraction in lowest terms, the lower number above 0. */
    private static final class Value {
        long up;
        long low = 1;

        void setWhole(long whole) {
            up = whole;
            low = 1;
        }

        void copyFrom(Value from) {
            up = from.up;
            low = from.low;
        }

        boolean is(long itsUp, long itsLow) {
            return up == itsUp && low == itsLow;
        }

        long part(boolean lower) {
            return lower ? low : up;
        }

        /** False, and the VALUE stays, if it would be above what a VALUE may be. */
        boolean put(long newUp, long newLow) {
            long u = newUp;
            long l = newLow;
            long measure = l == 1 ? 1 : commonMeasure(u, l);
            if (measure > 1) {
                u /= measure;
                l /= measure;
            }
            if (u > UP_MAX || u < -UP_MAX || l > LOW_MAX) {
                return false;
            }
            up = u;
            low = l;
            return true;
        }

        /** False, and the VALUE stays, if the ORDER CAN'T be. */
        boolean obey(int kind, int x) {
            boolean figures = low == 1 && up >= 0;
            switch (kind) {
                case ADD:
                    return put(up + x * low, low);
                case TAKE:
                    return put(up - x * low, low);
                case TIMES:
                    return put(up * x, low);
                case BY:
                    return x > 0 && put(up, low * x);
                case REST:
                    return figures && x > 0 && put(up % x, 1);
                case JOIN:
                    return figures && isNumber(x) && put(up * TENS[figuresOf(x)] + x, 1);
                case TURN:
                    return figures && put(turned(), 1);
                case ACROSS:
                    return figures && put(across(), 1);
                case STRIKE:
                    return figures && x > 0 && x <= figuresOf(up) && put(without(x), 1);
                default:
                    return kind == SAY;
            }
        }

        private long turned() {
            long left = up;
            long turned = 0;
            for (int n = figuresOf(up); n > 0; n--) {
                turned = turned * 10 + left % 10;
                left /= 10;
            }
            return turned;
        }

        private long across() {
            long left = up;
            long together = 0;
            for (int n = figuresOf(up); n > 0; n--) {
                together += left % 10;
                left /= 10;
            }
            return together;
        }

        private long without(int i) {
            int behind = figuresOf(up) - i;
            if (behind < 0 || behind >= TENS.length) {
                return up;
            }
            long unit = TENS[behind];
            return unit > 0 ? up / unit / 10 * unit + up % unit : up;
        }
    }

    /** VALUES that were told or PLAYED, one behind the other. */
    private static final class Values {
        private final long[] ups;
        private final long[] lows;
        int count;

        Values(int most) {
            ups = new long[most];
            lows = new long[most];
        }

        int tell(int up, int down, Value by) {
            if (down == 0) {
                count = 0;
                return 0;
            }
            if (!isTold(up, down)) {
                return NONE;
            }
            by.put(up, down);
            return append(by) ? count : NONE;
        }

        boolean append(Value value) {
            if (count >= ups.length) {
                return false;
            }
            ups[count] = value.up;
            lows[count] = value.low;
            count++;
            return true;
        }

        /** The latest of them; 0 if there is none. */
        void readLast(Value into) {
            into.setWhole(0);
            if (count > 0 && count <= ups.length) {
                into.up = ups[count - 1];
                into.low = lows[count - 1];
            }
        }

        boolean holds(int i, Value value) {
            return i >= 0 && i < count && value.is(ups[i], lows[i]);
        }

        void copyFrom(Values from) {
            count = Math.min(from.count, ups.length);
            System.arraycopy(from.ups, 0, ups, 0, count);
            System.arraycopy(from.lows, 0, lows, 0, count);
        }
    }

    private static final class Orders {
        final int[] kinds;
        final int[] xs;
        int count;

        Orders(int most) {
            kinds = new int[most];
            xs = new int[most];
        }

        boolean has(int i) {
            return i >= 0 && i < count;
        }

        boolean add(int kind, int x) {
            if (count >= kinds.length) {
                return false;
            }
            kinds[count] = kind;
            xs[count] = x;
            count++;
            return true;
        }

        /** ORDER i's NUMBER, or what was THOUGHT of its LETTER. */
        int amount(int i, int[] thought) {
            int letter = xs[i] - LETTER_BASE;
            return isLetter(letter) ? thought[letter] : xs[i];
        }

        void copyFrom(Orders from) {
            count = Math.min(from.count, kinds.length);
            System.arraycopy(from.kinds, 0, kinds, 0, count);
            System.arraycopy(from.xs, 0, xs, 0, count);
        }
    }

    private static final class Table {
        final Orders orders = new Orders(CLAUSES_MAX);
        final int[] first = new int[LETTERS];
        final int[] last = new int[LETTERS];

        void clear() {
            orders.count = 0;
            Arrays.fill(first, NONE);
            Arrays.fill(last, NONE);
        }

        boolean isHidden(int letter) {
            return isLetter(letter) && first[letter] != NONE;
        }

        void begin(Value value, int[] thought) {
            value.setWhole(isHidden(0) ? thought[0] : 0);
        }

        /** Runs the first ORDERS, as many as are wanted: how many of them could be. */
        int run(int wanted, int[] thought, Value value) {
            int most = Math.min(wanted, orders.count);
            begin(value, thought);
            for (int i = 0; i < most; i++) {
                if (!value.obey(orders.kinds[i], orders.amount(i, thought))) {
                    return i;
                }
            }
            return most;
        }

        boolean comesToEnd(int[] thought, Value value) {
            return run(orders.count, thought, value) == orders.count;
        }

        boolean saysJust(Values heard, int[] thought, Value value) {
            int says = 0;
            begin(value, thought);
            for (int i = 0; i < orders.count; i++) {
                int kind = orders.kinds[i];
                if (!value.obey(kind, orders.amount(i, thought))) {
                    return false;
                }
                if (kind == SAY) {
                    if (!heard.holds(says, value)) {
                        return false;
                    }
                    says++;
                }
            }
            return says == heard.count;
        }

        boolean runWithSlip(int number, int[] thought, Value value) {
            int slipped = number / SLIPS;
            begin(value, thought);
            for (int i = 0; i < orders.count; i++) {
                int kind = orders.kinds[i];
                int x = orders.amount(i, thought);
                boolean can = i == slipped
                    ? slipAt(kind, x, number % SLIPS, value)
                    : value.obey(kind, x);
                if (!can) {
                    return false;
                }
            }
            return true;
        }

        /** Add and take, times and by are pairs that differ in their kind's last bit alone. */
        private static boolean slipAt(int kind, int x, int how, Value value) {
            if (how == 0) {
                return true;
            }
            if (how == 1) {
                return value.obey(kind, x) && value.obey(kind, x);
            }
            return kind <= BY && value.obey(kind ^ 1, x);
        }

        /** At most 10000 numbers of each of four LETTERS: no wrap. */
        long countAll() {
            long members = 1;
            for (int letter = 0; letter < LETTERS; letter++) {
                if (isHidden(letter)) {
                    members *= last[letter] - first[letter] + 1;
                }
            }
            return members;
        }

        void firstOfAll(int[] thought) {
            for (int letter = 0; letter < LETTERS; letter++) {
                thought[letter] = Math.max(first[letter], 0);
            }
        }

        void nextOfAll(int[] thought) {
            for (int letter = LETTERS - 1; letter >= 0; letter--) {
                if (isHidden(letter)) {
                    if (thought[letter] < last[letter]) {
                        thought[letter]++;
                        return;
                    }
                    thought[letter] = first[letter];
                }
            }
        }
    }

    /**
     * What THE IMAGE keeps. Of TABLES the number is enough: their places below the kept number
     * are never written again, as a new TABLE always goes behind them.
     */
    private static final class State {
        int tables;
        final int[] thought = new int[LETTERS];
        final Values claims = new Values(CLAIMS_MAX);
        final Values heard = new Values(HEARD_MAX);
        final Orders kit = new Orders(KIT_MAX);
        final int[] asks = new int[ASKS_MAX];
        int askCount;
        int playedTable = NONE;
        /**
         * The VALUE at first and those behind the ORDERS PLAYED. They are kept, not run again, as
         * something else may be THOUGHT between two ORDERS.
         */
        final Values trail = new Values(CLAUSES_MAX + 1);

        int ordersPlayed() {
            return Math.max(trail.count - 1, 0);
        }

        void copyFrom(State from) {
            tables = from.tables;
            System.arraycopy(from.thought, 0, thought, 0, LETTERS);
            claims.copyFrom(from.claims);
            heard.copyFrom(from.heard);
            kit.copyFrom(from.kit);
            System.arraycopy(from.asks, 0, asks, 0, ASKS_MAX);
            askCount = from.askCount;
            playedTable = from.playedTable;
            trail.copyFrom(from.trail);
        }
    }

    /** Numbers 0 .. 9999 as they are noted: how many, and which. */
    private static final class Tally {
        private final long[] seen = new long[NUMBER_MAX / 64 + 1];
        int count;
        private int least;
        private int greatest;
        private int unlikeOnes;

        void clear() {
            Arrays.fill(seen, 0L);
            count = 0;
            unlikeOnes = 0;
        }

        void note(int number) {
            if (!isNumber(number)) {
                return;
            }
            least = count == 0 ? number : Math.min(least, number);
            greatest = count == 0 ? number : Math.max(greatest, number);
            count++;
            long bit = 1L << (number & 63);
            if ((seen[number >> 6] & bit) == 0) {
                seen[number >> 6] |= bit;
                unlikeOnes++;
            }
        }

        int pick(int what) {
            if (count == 0) {
                return NONE;
            }
            return what == 0 ? least : what == 1 ? greatest : unlikeOnes;
        }
    }

    /** A PROOF: the LETTERS' factors and the number (the last part), over one lower number. */
    private static final class Sum {
        final long[] parts = new long[LETTERS + 1];
        long low;

        boolean prove(Table t) {
            Arrays.fill(parts, 0L);
            parts[0] = t.isHidden(0) ? 1 : 0;
            low = 1;
            for (int i = 0; i < t.orders.count; i++) {
                if (!follow(t.orders.kinds[i], t.orders.xs[i]) || !putInLowestTerms()) {
                    return false;
                }
            }
            return true;
        }

        private boolean follow(int kind, int x) {
            boolean number = x < LETTER_BASE;
            switch (kind) {
                case ADD:
                    return addPart(x, 1);
                case TAKE:
                    return addPart(x, -1);
                case TIMES:
                    return number ? multiply(x) : multiplyByLetter(x - LETTER_BASE);
                case BY:
                    low *= number ? x : 0;
                    return low > 0;
                case SAY:
                    return true;
                default:
                    return false;
            }
        }

        private boolean addPart(int x, int sign) {
            int letter = x - LETTER_BASE;
            if (isLetter(letter)) {
                parts[letter] += sign * low;
            } else {
                parts[LETTERS] += sign * x * low;
            }
            return true;
        }

        private boolean multiply(int number) {
            for (int i = 0; i < parts.length; i++) {
                parts[i] *= number;
            }
            return true;
        }

        private boolean multiplyByLetter(int letter) {
            for (int i = 0; i < LETTERS; i++) {
                if (parts[i] != 0) {
                    return false;
                }
            }
            if (!isLetter(letter)) {
                return false;
            }
            parts[letter] = parts[LETTERS];
            parts[LETTERS] = 0;
            return true;
        }

        private boolean putInLowestTerms() {
            long measure = low;
            for (int i = 0; i < parts.length; i++) {
                measure = commonMeasure(parts[i], measure);
            }
            if (measure < 1) {
                return false;
            }
            low /= measure;
            boolean small = low <= LOW_MAX;
            for (int i = 0; i < parts.length; i++) {
                parts[i] /= measure;
                small = small && parts[i] <= UP_MAX && parts[i] >= -UP_MAX;
            }
            return small;
        }
    }

    /**
     * MORE. All members go ORDER by ORDER side by side; those that are alike so far have the same
     * group, named by the first of them. A member that failed has the lower number 0, and once it is
     * known who fails, the group NONE.
     */
    private static final class Parting {
        private static final int SEATS = 1024;

        private final long[] ups = new long[MORE_MAX];
        private final long[] lows = new long[MORE_MAX];
        private final int[] group = new int[MORE_MAX];
        private final int[] finer = new int[MORE_MAX];
        private final int[] seats = new int[SEATS];
        private int members;

        int lowestTelling(Table t, int all, int[] maybe, Value value) {
            members = Math.min(all, MORE_MAX);
            int ends = groupBySaid(t, maybe, value);
            startAll(t, maybe, value);
            for (int i = 0; i < t.orders.count; i++) {
                stepAll(t, i, maybe, value);
                if (countGroups() == ends) {
                    return i;
                }
            }
            return NONE;
        }

        /** How many come to their end; the others are left out from then on. */
        private int groupBySaid(Table t, int[] maybe, Value value) {
            Arrays.fill(group, 0);
            startAll(t, maybe, value);
            for (int i = 0; i < t.orders.count; i++) {
                stepAll(t, i, maybe, value);
                if (t.orders.kinds[i] == SAY) {
                    countGroups();
                    System.arraycopy(finer, 0, group, 0, members);
                }
            }
            int ends = 0;
            for (int m = 0; m < members; m++) {
                if (lows[m] == 0) {
                    group[m] = NONE;
                } else {
                    ends++;
                }
            }
            return ends;
        }

        private void startAll(Table t, int[] maybe, Value value) {
            t.firstOfAll(maybe);
            for (int m = 0; m < members; m++) {
                t.begin(value, maybe);
                ups[m] = value.up;
                lows[m] = group[m] == NONE ? 0 : value.low;
                t.nextOfAll(maybe);
            }
        }

        private void stepAll(Table t, int i, int[] maybe, Value value) {
            t.firstOfAll(maybe);
            for (int m = 0; m < members; m++) {
                if (lows[m] != 0) {
                    value.up = ups[m];
                    value.low = lows[m];
                    boolean can = value.obey(t.orders.kinds[i], t.orders.amount(i, maybe));
                    ups[m] = value.up;
                    lows[m] = can ? value.low : 0;
                }
                t.nextOfAll(maybe);
            }
        }

        /** Parts the groups by their VALUES: the finer groups, and how many there are. */
        private int countGroups() {
            Arrays.fill(seats, NONE);
            int groups = 0;
            for (int m = 0; m < members; m++) {
                if (lows[m] != 0) {
                    finer[m] = seat(m);
                    groups += finer[m] == m ? 1 : 0;
                }
            }
            return groups;
        }

        /** The first member that is alike; twice as many seats as members: one is always free. */
        private int seat(int m) {
            long mixed = (ups[m] * 31 + lows[m]) * 1000003 + group[m];
            mixed ^= mixed >>> 20;
            for (int tries = 0; tries < SEATS; tries++) {
                int place = (int) ((mixed + tries) & (SEATS - 1));
                int there = seats[place];
                if (there == NONE) {
                    seats[place] = m;
                    return m;
                }
                if (group[there] == group[m] && ups[there] == ups[m] && lows[there] == lows[m]) {
                    return there;
                }
            }
            return m;
        }
    }

    /** MADE: all rows of one length, the lowest first, before any longer one. */
    private static final class Maker {
        private final long[][] levels = new long[MADE_MAX + 1][MADE_FROM_MAX];
        private final int[] thought = new int[LETTERS];
        private final Value value = new Value();
        final int[] chosen = new int[MADE_MAX];
        private int low;
        private int numbers;
        private int goal;

        int fewest(Orders kit, int itsLow, int high, int itsGoal, int most) {
            low = itsLow;
            goal = itsGoal;
            numbers = Math.min(high - low + 1, MADE_FROM_MAX);
            if (low == high && low == goal) {
                return 0;
            }
            for (int j = 0; j < numbers; j++) {
                levels[0][j] = low + j;
            }
            for (int length = 1; length <= most && length <= MADE_MAX; length++) {
                if (reaches(kit, 0, length)) {
                    return length;
                }
            }
            return NO_SUCH;
        }

        private boolean reaches(Orders kit, int depth, int length) {
            if (depth >= length || depth >= MADE_MAX) {
                return false;
            }
            boolean last = depth + 1 == length;
            for (int k = 0; k < kit.count; k++) {
                if (spread(kit, k, depth, last)) {
                    chosen[depth] = k;
                    if (last || reaches(kit, depth + 1, length)) {
                        return true;
                    }
                }
            }
            return false;
        }

        /** Does the kit's ORDER on all numbers of a level; gives up at the first that it fails. */
        private boolean spread(Orders kit, int k, int depth, boolean last) {
            for (int j = 0; j < numbers; j++) {
                value.setWhole(levels[depth][j]);
                thought[0] = low + j;
                boolean can = value.obey(kit.kinds[k], kit.amount(k, thought));
                if (!can || value.low != 1 || value.up < 0) {
                    return false;
                }
                if (last && value.up != goal) {
                    return false;
                }
                levels[depth + 1][j] = value.up;
            }
            return true;
        }
    }
}
