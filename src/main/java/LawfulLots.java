import java.util.Arrays;

/**
 * A maker of lawful inputs for a machine under trial. The document (DOC.md) tells its promises; words in capitals
 * in the comments are the document's terms.
 */
public final class LawfulLots {
    public static final int NONE = -1;

    private static final int MOST_BYTES = 2000;
    private static final int BYTES_OF_A_FEED = 20;
    private static final int MOST_TOKENS = 400;
    private static final int LONGEST_NAME = 8;
    private static final int LONGEST_INT = 4;
    private static final int MOST_FIELDS = 6;
    private static final int MOST_OF_A_SORT = 8;
    private static final int MOST_NESTED = 6;
    private static final int MOST_INPUTS = 32768;
    private static final int MOST_LOGGED = 200;
    private static final int MOST_SHARE = 1000;
    private static final int MOST_IN_ROWS = 64;
    private static final int LONGEST_ROW = 10;

    private static final int SYNTAX = 1;
    private static final int ROOM = 2;
    private static final int TWICE = 3;
    private static final int UNKNOWN = 4;
    private static final int WRONG = 5;
    private static final int MANY = 6;

    // Kinds of TOKENS. The code that a Machine runs is made of the same kinds: an INT or a NAME is put on its stack,
    // a sign or a word works on what lies there.
    private static final int END = 0;
    private static final int BAD = 1;
    private static final int NAME = 2;
    private static final int INT = 3;
    private static final int SEMICOLON = 4;
    private static final int PLUS = 5;
    private static final int MINUS = 6;
    private static final int TIMES = 7;
    private static final int EQUAL = 8;
    private static final int UNEQUAL = 9;
    private static final int BELOW = 10;
    private static final int NOT_ABOVE = 11;
    private static final int OPEN = 12;
    private static final int CLOSE = 13;
    private static final int FIRST_WORD = 14;
    private static final int WORD_FIELD = 14;
    private static final int WORD_FROM = 15;
    private static final int WORD_TO = 16;
    private static final int WORD_LAW = 17;
    private static final int WORD_SOFT = 18;
    private static final int WORD_BIN = 19;
    private static final int WORD_NEXT = 20;
    private static final int WORD_SHARE = 21;
    private static final int WORD_IF = 22;
    private static final int WORD_OR = 23;
    private static final int WORD_AND = 24;
    private static final int WORD_NOT = 25;
    private static final int WORD_OLD = 26;
    private static final int TIGHTNESS_OF_OR = 1;
    private static final int KIND_BITS = 5;
    private static final int KIND_MASK = 31;

    // The words' bytes, in the order of their kinds: field from to law soft bin next share if or and not old.
    private static final long[] WORDS = {
        0x6669656c64L, 0x66726f6dL, 0x746fL, 0x6c6177L, 0x736f6674L, 0x62696eL, 0x6e657874L,
        0x7368617265L, 0x6966L, 0x6f72L, 0x616e64L, 0x6e6f74L, 0x6f6c64L
    };

    // Sorts of what a text tells beside FIELDS. Each told thing has a slot: its sort times eight, and its number.
    // The slots of laws, soft ones and bins are also the bits of an INPUT's marks.
    private static final int LAW = 0;
    private static final int SOFT = 1;
    private static final int BIN = 2;
    private static final int NEXT = 3;
    private static final int SHARE = 4;
    private static final int SHARE_IF = 5;
    private static final int SORTS = 6;
    private static final int SLOTS = 48;
    private static final int SETS = 256;
    private static final int SET_MASK = 255;

    // What the Reader waits for.
    private static final int REFUSED = -1;
    private static final int AT_TELL = 0;
    private static final int AT_FIELD = 1;
    private static final int AT_FROM = 2;
    private static final int AT_LEAST = 3;
    private static final int AT_TO = 4;
    private static final int AT_GREATEST = 5;
    private static final int AT_FIELD_END = 6;
    private static final int AT_WEIGHT = 7;
    private static final int AT_LITERAL = 8;
    private static final int AT_UNIT = 9;
    private static final int AT_OLD_NAME = 10;
    private static final int BEHIND_UNIT = 11;

    // Where in a tell an E stands: it is a share's, or to the left or the right of a comparing sign.
    private static final int AMOUNT = 0;
    private static final int LEFT = 1;
    private static final int RIGHT = 2;

    private static final int FIELD_PLACES = 8;
    private static final int FIELD_MASK = 7;
    private static final int STACK_PLACES = 64;
    private static final int STACK_MASK = 63;
    private static final int BLOCK = 64;
    private static final int BLOCKS = 512;
    private static final int FAR = 1000000;

    private final byte[] tape = new byte[MOST_BYTES];
    private final Reader reader = new Reader();
    private final Chart chart = new Chart();
    private final Log log = new Log();
    private final BinTable bins = new BinTable();
    private final Chains chains = new Chains();
    private int taped = 0;
    private int faultPlace = NONE;

    public LawfulLots() {
    }

    public int feed(int a, int b, int c, int d, int e) {
        if (taped + BYTES_OF_A_FEED > MOST_BYTES) {
            return NONE;
        }
        append(a);
        append(b);
        append(c);
        append(d);
        append(e);
        return taped;
    }

    private void append(int word) {
        for (int shift = 24; shift >= 0; shift -= 8) {
            if (taped < tape.length) {
                tape[taped] = (byte) (word >>> shift);
                taped++;
            }
        }
    }

    public int back(int n) {
        if (n < 0 || n > taped) {
            return NONE;
        }
        taped -= n;
        return taped;
    }

    public int read() {
        int fault = reader.understand(tape, taped);
        taped = 0;
        faultPlace = reader.faultPlace;
        if (fault == 0) {
            reader.draft = chart.exchange(reader.draft);
            log.size = 0;
            forgetLawful();
        }
        return fault;
    }

    private void forgetLawful() {
        bins.forget();
        chains.fresh = false;
    }

    public int place() {
        return faultPlace;
    }

    public boolean turn(int law, boolean on) {
        if (!chart.book.has(LAW, law) || chart.isOn(law) == on) {
            return false;
        }
        chart.swapLaw(law);
        forgetLawful();
        return true;
    }

    public int lawful() {
        chart.refresh();
        return chart.size;
    }

    public int kept() {
        chart.refresh();
        return chart.kept;
    }

    public int value(int k, int field) {
        chart.refresh();
        if (k < 0 || k >= chart.size) {
            return NONE;
        }
        return chart.book.valueIn(chart.inputOf(k), field);
    }

    public int share(int k) {
        chart.refreshShares();
        return k < 0 || k >= chart.size ? NONE : chart.shareOf(k);
    }

    public int sum() {
        chart.refreshShares();
        return chart.total;
    }

    public int pick(int x) {
        chart.refreshShares();
        return chart.drawnBy(x);
    }

    public int draw(long seed, int i) {
        chart.refreshShares();
        if (i < 0 || chart.total <= 0) {
            return NONE;
        }
        long w = (seed * 31 + i + 1) * 2862933555777941757L;
        long v = w ^ w >>> 29;
        int drawn = chart.drawnBy((int) ((v >>> 1) % chart.total));
        log.add(chart.inputOf(drawn));
        bins.planned = false;
        return drawn;
    }

    public int quarrel() {
        chart.refresh();
        return chart.smallestQuarrel();
    }

    public int alone(int k) {
        if (!chart.book.has(LAW, k) || !chart.isOn(k)) {
            return NONE;
        }
        chart.refresh();
        return chart.refusedByAlone(k);
    }

    public int meets(int bin) {
        if (!chart.book.has(BIN, bin)) {
            return NONE;
        }
        refreshBins();
        return bins.meetingAll(1 << bin);
    }

    public int cross(int one, int other) {
        if (!chart.book.has(BIN, one) || !chart.book.has(BIN, other)) {
            return NONE;
        }
        refreshBins();
        return bins.meetingAll(1 << one | 1 << other);
    }

    private void refreshBins() {
        chart.refreshBins();
        bins.refresh(chart);
    }

    public int hits(int bin) {
        if (!chart.book.has(BIN, bin)) {
            return NONE;
        }
        chart.refreshBins();
        return log.meeting(chart, bin);
    }

    public int fill() {
        refreshBins();
        bins.plan(chart, log);
        return bins.planSize();
    }

    public int fills(int i) {
        refreshBins();
        bins.plan(chart, log);
        return bins.planMember(i);
    }

    public int best() {
        refreshBins();
        return bins.meetingMost(log.unmet(chart));
    }

    public int least(int bin) {
        if (!chart.book.has(BIN, bin)) {
            return NONE;
        }
        chart.refreshBins();
        bins.refreshLowest(chart);
        return bins.lowest(bin);
    }

    public int logged(int i, int field) {
        return i < 0 || i >= log.size ? NONE : chart.book.valueIn(log.inputOf(i), field);
    }

    public int fallen(int i) {
        chart.refresh();
        return log.unlawful(chart, i);
    }

    public long rows(int length) {
        if (!rowsThereOf(length)) {
            return NONE;
        }
        return chains.ofLength(length);
    }

    public int row(int length, long r, int k) {
        if (!rowsThereOf(length) || r < 0 || k < 0 || k >= length) {
            return NONE;
        }
        return chains.member(length, r, k);
    }

    private boolean rowsThereOf(int length) {
        if (length < 1 || length > LONGEST_ROW) {
            return false;
        }
        chart.refresh();
        if (chart.size < 1 || chart.size > MOST_IN_ROWS) {
            return false;
        }
        chains.refresh(chart);
        return true;
    }

    public int count(int what) {
        switch (what) {
            case 0:
                return chart.book.fields;
            case 1:
                return chart.book.toldOf(LAW);
            case 2:
                return chart.book.toldOf(SOFT);
            case 3:
                return chart.book.toldOf(BIN);
            case 4:
                return chart.book.toldOf(NEXT);
            case 5:
                return chart.book.toldOf(SHARE);
            case 6:
                return chart.book.inputs;
            case 7:
                return log.size;
            case 8:
                return taped;
            default:
                return NONE;
        }
    }

    /** A text that was understood: its FIELDS, and all else that it tells as code. */
    private static final class Book {
        final long[] names = new long[FIELD_PLACES];
        final int[] from = new int[FIELD_PLACES];
        final int[] to = new int[FIELD_PLACES];
        final int[] stride = new int[FIELD_PLACES];
        final int[] told = new int[SORTS];
        final int[] weight = new int[MOST_OF_A_SORT];
        final int[] code = new int[MOST_TOKENS];
        final int[] begin = new int[SLOTS];
        final int[] end = new int[SLOTS];
        // The last FIELD that a slot's code looks at: while no FIELD up to it changes, its answer does not.
        final int[] reach = new int[SLOTS];
        int fields = 0;
        int inputs = 1;
        int codeSize = 0;

        void clear() {
            fields = 0;
            inputs = 1;
            codeSize = 0;
            Arrays.fill(told, 0);
            Arrays.fill(begin, 0);
            Arrays.fill(end, 0);
            Arrays.fill(reach, NONE);
        }

        void addField(long name, int least, int most) {
            if (fields >= MOST_FIELDS) {
                return;
            }
            names[fields] = name;
            from[fields] = least;
            to[fields] = most;
            fields++;
            // Held just above the limit, so that a text of many wide FIELDS can't wrap back below it.
            inputs = Math.min(inputs * Math.max(1, most - least + 1), MOST_INPUTS + 1);
        }

        int fieldNamed(long name) {
            for (int f = 0; f < fields && f < names.length; f++) {
                if (names[f] == name) {
                    return f;
                }
            }
            return NONE;
        }

        int toldOf(int sort) {
            return sort >= 0 && sort < told.length ? told[sort] : 0;
        }

        void addTold(int sort) {
            if (sort >= 0 && sort < told.length) {
                told[sort]++;
            }
        }

        boolean has(int sort, int number) {
            return number >= 0 && number < toldOf(sort);
        }

        void setWeight(int soft, int pounds) {
            if (soft >= 0 && soft < weight.length) {
                weight[soft] = pounds;
            }
        }

        void open(int slot) {
            if (slot >= 0 && slot < SLOTS) {
                begin[slot] = codeSize;
                end[slot] = codeSize;
                reach[slot] = NONE;
            }
        }

        void emit(int slot, int kind, int detail) {
            if (slot < 0 || slot >= SLOTS || codeSize >= code.length) {
                return;
            }
            code[codeSize] = detail << KIND_BITS | kind;
            codeSize++;
            end[slot] = codeSize;
            if ((kind == NAME || kind == WORD_OLD) && detail > reach[slot]) {
                reach[slot] = detail;
            }
        }

        boolean isEmpty(int slot) {
            return slot < 0 || slot >= SLOTS || begin[slot] == end[slot];
        }

        int reachOf(int slot) {
            return slot >= 0 && slot < SLOTS ? reach[slot] : NONE;
        }

        void setStrides() {
            int width = 1;
            for (int f = Math.min(fields, MOST_FIELDS) - 1; f >= 0; f--) {
                stride[f] = width;
                width *= to[f] - from[f] + 1;
            }
        }

        int valueIn(int input, int field) {
            if (field < 0 || field >= fields || field >= MOST_FIELDS) {
                return NONE;
            }
            int span = to[field] - from[field] + 1;
            return from[field] + (stride[field] > 0 && span > 0 ? input / stride[field] % span : 0);
        }

        void spell(int input, int[] values) {
            for (int f = 0; f < fields && f < values.length; f++) {
                values[f] = valueIn(input, f);
            }
        }

        /** The sum of an INPUT's values, each less its from. */
        int heightOf(int input) {
            int height = 0;
            int rest = input;
            for (int f = Math.min(fields, MOST_FIELDS) - 1; f >= 0; f--) {
                int span = to[f] - from[f] + 1;
                if (span > 0) {
                    height += rest % span;
                    rest /= span;
                }
            }
            return height;
        }

        void spellFirst(int[] values) {
            for (int f = 0; f < from.length && f < values.length; f++) {
                values[f] = from[f];
            }
        }

        /** Goes on to the INPUT behind: the first FIELD that changes. */
        int advance(int[] values) {
            for (int f = fields - 1; f >= 0 && f < MOST_FIELDS && f < values.length; f--) {
                if (values[f] < to[f]) {
                    values[f]++;
                    return f;
                }
                values[f] = from[f];
            }
            return NONE;
        }
    }

    /** Cuts a tape into TOKENS. */
    private static final class Scanner {
        private byte[] text = new byte[0];
        private int length = 0;
        private int at = 0;
        int kind = END;
        int start = 0;
        int number = 0;
        long name = 0;

        void begin(byte[] bytes, int size) {
            text = bytes;
            length = Math.max(0, Math.min(size, bytes.length));
            at = 0;
            advance();
        }

        void advance() {
            while (at < length && isBlank(text[at])) {
                at++;
            }
            start = at;
            if (at >= length) {
                kind = END;
            } else if (isLetter(text[at])) {
                scanName();
            } else if (isDigit(text[at])) {
                scanInt();
            } else {
                scanSign(text[at]);
            }
        }

        private void scanName() {
            name = 0;
            while (at < length && (isLetter(text[at]) || isDigit(text[at]))) {
                name = name << 8 | text[at];
                at++;
            }
            kind = at - start > LONGEST_NAME ? BAD : wordOrName();
        }

        private int wordOrName() {
            for (int w = 0; w < WORDS.length; w++) {
                if (WORDS[w] == name) {
                    return FIRST_WORD + w;
                }
            }
            return NAME;
        }

        private void scanInt() {
            number = 0;
            while (at < length && isDigit(text[at])) {
                number = number * 10 + text[at] - '0';
                at++;
            }
            kind = at - start > LONGEST_INT ? BAD : INT;
        }

        private void scanSign(int c) {
            boolean equalBehind = at + 1 < length && text[at + 1] == '=';
            kind = equalBehind ? signWithEqual(c) : BAD;
            if (kind != BAD) {
                at += 2;
            } else {
                kind = plainSign(c);
                at++;
            }
        }

        private static int signWithEqual(int c) {
            switch (c) {
                case '=':
                    return EQUAL;
                case '!':
                    return UNEQUAL;
                case '<':
                    return NOT_ABOVE;
                default:
                    return BAD;
            }
        }

        private static int plainSign(int c) {
            switch (c) {
                case ';':
                    return SEMICOLON;
                case '+':
                    return PLUS;
                case '-':
                    return MINUS;
                case '*':
                    return TIMES;
                case '<':
                    return BELOW;
                case '(':
                    return OPEN;
                case ')':
                    return CLOSE;
                default:
                    return BAD;
            }
        }

        private static boolean isBlank(int c) {
            return c == 9 || c == 10 || c == 13 || c == 32;
        }

        private static boolean isLetter(int c) {
            return c >= 'a' && c <= 'z';
        }

        private static boolean isDigit(int c) {
            return c >= '0' && c <= '9';
        }
    }

    /** Reads a text, TOKEN by TOKEN, into a draft, or finds its FAULT. */
    private static final class Reader {
        private final Scanner scanner = new Scanner();
        // Signs and words that wait for what is to their right. There are few at each depth of brackets, for a looser
        // one sends all tighter ones into the code.
        private final int[] waiting = new int[STACK_PLACES];
        Book draft = new Book();
        int faultPlace = NONE;
        private int fault = 0;
        // FAULTS of meaning count only when the whole text has none of SYNTAX and ROOM.
        private int meaningFault = 0;
        private int meaningPlace = 0;
        private int state = AT_TELL;
        private int side = AMOUNT;
        private int sort = LAW;
        private int slot = 0;
        private int waits = 0;
        private int nested = 0;
        private boolean crowded = false;
        private long fieldName = 0;
        private int fieldPlace = 0;
        private int least = 0;

        int understand(byte[] text, int length) {
            fault = 0;
            faultPlace = NONE;
            meaningFault = 0;
            state = AT_TELL;
            nested = 0;
            crowded = false;
            draft.clear();
            scanner.begin(text, length);
            for (int taken = 0; taken <= MOST_TOKENS && fault == 0 && scanner.kind != END; taken++) {
                state = goOn(scanner.kind);
                if (state == REFUSED) {
                    refuse(SYNTAX);
                } else if (crowded || taken == MOST_TOKENS) {
                    refuse(ROOM);
                } else {
                    scanner.advance();
                }
            }
            if (fault == 0 && state != AT_TELL) {
                refuse(SYNTAX);
            }
            if (fault == 0 && meaningFault != 0) {
                fault = meaningFault;
                faultPlace = meaningPlace;
            }
            if (fault == 0) {
                draft.setStrides();
            }
            return fault;
        }

        private void refuse(int number) {
            fault = number;
            faultPlace = scanner.start;
        }

        private void blame(int number, int at) {
            boolean ahead = at < meaningPlace || at == meaningPlace && number < meaningFault;
            if (meaningFault == 0 || ahead) {
                meaningFault = number;
                meaningPlace = at;
            }
        }

        private int goOn(int kind) {
            switch (state) {
                case AT_TELL:
                    return beginTell(kind);
                case AT_FIELD:
                    fieldName = scanner.name;
                    fieldPlace = scanner.start;
                    return kind == NAME ? AT_FROM : REFUSED;
                case AT_FROM:
                    return kind == WORD_FROM ? AT_LEAST : REFUSED;
                case AT_LEAST:
                    least = scanner.number;
                    return kind == INT ? AT_TO : REFUSED;
                case AT_TO:
                    return kind == WORD_TO ? AT_GREATEST : REFUSED;
                case AT_GREATEST:
                    return kind == INT ? endField() : REFUSED;
                case AT_FIELD_END:
                    return kind == SEMICOLON ? AT_TELL : REFUSED;
                case AT_WEIGHT:
                    return kind == INT ? weigh() : REFUSED;
                case AT_OLD_NAME:
                    return kind == NAME ? nameInCode(WORD_OLD) : REFUSED;
                case BEHIND_UNIT:
                    return nested > 0 ? goOnInBrackets(kind) : goOnBehindExpression(kind);
                default:
                    return goOnAtUnit(kind);
            }
        }

        private int beginTell(int kind) {
            switch (kind) {
                case WORD_FIELD:
                    crowded = draft.fields >= MOST_FIELDS;
                    return AT_FIELD;
                case WORD_LAW:
                    return beginSort(LAW, AT_LITERAL);
                case WORD_SOFT:
                    return beginSort(SOFT, AT_WEIGHT);
                case WORD_BIN:
                    return beginSort(BIN, AT_LITERAL);
                case WORD_NEXT:
                    return beginSort(NEXT, AT_LITERAL);
                case WORD_SHARE:
                    return beginSort(SHARE, AT_UNIT);
                default:
                    return REFUSED;
            }
        }

        private int beginSort(int begun, int next) {
            int number = draft.toldOf(begun);
            crowded = number >= MOST_OF_A_SORT;
            if (!crowded) {
                sort = begun;
                side = begun == SHARE ? AMOUNT : LEFT;
                slot = begun * MOST_OF_A_SORT + number;
                waits = 0;
                draft.open(slot);
                draft.addTold(begun);
            }
            return next;
        }

        private int endField() {
            if (draft.fieldNamed(fieldName) != NONE) {
                blame(TWICE, fieldPlace);
            }
            if (scanner.number < least) {
                blame(WRONG, scanner.start);
            }
            draft.addField(fieldName, least, scanner.number);
            if (draft.inputs > MOST_INPUTS) {
                blame(MANY, fieldPlace);
            }
            return AT_FIELD_END;
        }

        private int weigh() {
            draft.setWeight(draft.toldOf(SOFT) - 1, scanner.number);
            return AT_LITERAL;
        }

        private int goOnAtUnit(int kind) {
            switch (kind) {
                case WORD_NOT:
                    return state == AT_LITERAL ? turnLiteral() : REFUSED;
                case INT:
                    draft.emit(slot, INT, scanner.number);
                    return BEHIND_UNIT;
                case NAME:
                    return nameInCode(NAME);
                case WORD_OLD:
                    if (sort != NEXT) {
                        blame(WRONG, scanner.start);
                    }
                    return AT_OLD_NAME;
                case OPEN:
                    crowded = nested >= MOST_NESTED;
                    nested++;
                    await(OPEN);
                    return AT_UNIT;
                default:
                    return REFUSED;
            }
        }

        /** Two 'not' in a row are none, so that a long row of them needs no room. */
        private int turnLiteral() {
            if (lastWaiting() == WORD_NOT) {
                waits--;
            } else {
                await(WORD_NOT);
            }
            return AT_LITERAL;
        }

        private int nameInCode(int kind) {
            int field = draft.fieldNamed(scanner.name);
            if (field == NONE) {
                blame(UNKNOWN, scanner.start);
            }
            draft.emit(slot, kind, Math.max(0, field));
            return BEHIND_UNIT;
        }

        private int goOnInBrackets(int kind) {
            switch (kind) {
                case PLUS:
                case MINUS:
                case TIMES:
                    return join(kind, AT_UNIT);
                case CLOSE:
                    return closeBracket();
                default:
                    return REFUSED;
            }
        }

        private int goOnBehindExpression(int kind) {
            int from = side;
            switch (kind) {
                case PLUS:
                case MINUS:
                case TIMES:
                    return join(kind, AT_UNIT);
                case EQUAL:
                case UNEQUAL:
                case BELOW:
                case NOT_ABOVE:
                    side = RIGHT;
                    return from == LEFT ? join(kind, AT_UNIT) : REFUSED;
                case WORD_AND:
                case WORD_OR:
                    side = LEFT;
                    return from == RIGHT ? join(kind, AT_LITERAL) : REFUSED;
                case WORD_IF:
                    side = LEFT;
                    return from == AMOUNT ? beginShareCondition() : REFUSED;
                case SEMICOLON:
                    release(TIGHTNESS_OF_OR);
                    return from != LEFT ? AT_TELL : REFUSED;
                default:
                    return REFUSED;
            }
        }

        private int join(int kind, int next) {
            release(tightness(kind));
            await(kind);
            return next;
        }

        private int closeBracket() {
            release(TIGHTNESS_OF_OR);
            waits--;
            nested--;
            return BEHIND_UNIT;
        }

        private int beginShareCondition() {
            release(TIGHTNESS_OF_OR);
            slot = SHARE_IF * MOST_OF_A_SORT + draft.toldOf(SHARE) - 1;
            draft.open(slot);
            return AT_LITERAL;
        }

        private void await(int kind) {
            if (waits >= 0 && waits < waiting.length) {
                waiting[waits] = kind;
                waits++;
            }
        }

        private int lastWaiting() {
            return waits > 0 && waits <= waiting.length ? waiting[waits - 1] : END;
        }

        /** Those that wait and are at least so tight come into the code, up to an open bracket. */
        private void release(int tightest) {
            for (int n = waits; n > 0 && tightness(lastWaiting()) >= tightest; n--) {
                draft.emit(slot, lastWaiting(), 0);
                waits--;
            }
        }

        private static int tightness(int kind) {
            switch (kind) {
                case TIMES:
                    return 6;
                case PLUS:
                case MINUS:
                    return 5;
                case EQUAL:
                case UNEQUAL:
                case BELOW:
                case NOT_ABOVE:
                    return 4;
                case WORD_NOT:
                    return 3;
                case WORD_AND:
                    return 2;
                case WORD_OR:
                    return TIGHTNESS_OF_OR;
                default:
                    return 0;
            }
        }
    }

    /** Runs the code of a slot. Its indexes are masked to the lengths of its arrays, which costs less than a test. */
    private static final class Machine {
        private final int[] stack = new int[STACK_PLACES];

        int run(Book book, int slot, int[] now, int[] old) {
            if (slot < 0 || slot >= SLOTS || now.length != FIELD_PLACES || old.length != FIELD_PLACES) {
                return 0;
            }
            int[] code = book.code;
            int end = book.end[slot];
            int top = 0;
            int last = 0;
            for (int at = book.begin[slot]; at >= 0 && at < end && at < code.length; at++) {
                int word = code[at];
                switch (word & KIND_MASK) {
                    case INT:
                        stack[top++ & STACK_MASK] = last;
                        last = word >> KIND_BITS;
                        break;
                    case NAME:
                        stack[top++ & STACK_MASK] = last;
                        last = now[word >> KIND_BITS & FIELD_MASK];
                        break;
                    case WORD_OLD:
                        stack[top++ & STACK_MASK] = last;
                        last = old[word >> KIND_BITS & FIELD_MASK];
                        break;
                    case PLUS:
                        last = stack[--top & STACK_MASK] + last;
                        break;
                    case MINUS:
                        last = stack[--top & STACK_MASK] - last;
                        break;
                    case TIMES:
                        last = stack[--top & STACK_MASK] * last;
                        break;
                    case EQUAL:
                        last = stack[--top & STACK_MASK] == last ? 1 : 0;
                        break;
                    case UNEQUAL:
                        last = stack[--top & STACK_MASK] != last ? 1 : 0;
                        break;
                    case BELOW:
                        last = stack[--top & STACK_MASK] < last ? 1 : 0;
                        break;
                    case NOT_ABOVE:
                        last = stack[--top & STACK_MASK] <= last ? 1 : 0;
                        break;
                    case WORD_AND:
                        last = stack[--top & STACK_MASK] & last;
                        break;
                    case WORD_OR:
                        last = stack[--top & STACK_MASK] | last;
                        break;
                    default:
                        last = 1 - last;
                        break;
                }
            }
            return last;
        }
    }

    /** What holds of each INPUT, worked out once for a text, and which of them are LAWFUL now. */
    private static final class Chart {
        private final Machine machine = new Machine();
        private final int[] values = new int[FIELD_PLACES];
        // How many INPUTS there are of which all laws of a set hold.
        private final int[] standing = new int[SETS];
        private final int[] softSeen = new int[SETS];
        // The sum of SHARES up to the end of each block of LAWFUL INPUTS.
        private final int[] blockEnds = new int[BLOCKS];
        // Rows by INPUT; they grow when a text needs it, for most texts are small and all objects share one room.
        private int[] marks = new int[0];
        private int[] shares = new int[0];
        private int[] order = new int[0];
        Book book = new Book();
        int size = 0;
        int kept = 0;
        int total = 0;
        private int on = 0;
        private boolean lawsMarked = false;
        private boolean binsMarked = false;
        private boolean sharesTold = false;
        private boolean fresh = false;
        private boolean summed = false;

        /** Takes a new book and gives the old one back for the next draft. */
        Book exchange(Book next) {
            Book former = book;
            book = next;
            on = (1 << book.toldOf(LAW)) - 1;
            lawsMarked = false;
            binsMarked = false;
            sharesTold = false;
            fresh = false;
            summed = false;
            return former;
        }

        boolean isOn(int law) {
            return (on >> law & 1) != 0;
        }

        void swapLaw(int law) {
            on ^= 1 << law;
            fresh = false;
            summed = false;
        }

        void refresh() {
            if (fresh) {
                return;
            }
            markLaws();
            gather();
            keepSoft();
            narrow();
            fresh = true;
        }

        private void markLaws() {
            if (lawsMarked) {
                return;
            }
            int room = roomFor(book.inputs);
            if (marks.length < room) {
                marks = new int[room];
                order = new int[room];
            }
            Arrays.fill(marks, 0);
            mark(LAW);
            mark(SOFT);
            countStanding();
            lawsMarked = true;
        }

        /** Few steps, so that growing again and again never costs much more than the last row. */
        private static int roomFor(int inputs) {
            for (int room = 64; room < MOST_INPUTS; room *= 8) {
                if (room >= inputs) {
                    return room;
                }
            }
            return MOST_INPUTS;
        }

        private void mark(int sort) {
            int first = sort * MOST_OF_A_SORT;
            int behind = first + book.toldOf(sort);
            if (first == behind) {
                return;
            }
            int inputs = Math.min(book.inputs, marks.length);
            int[] reach = book.reach;
            int bits = 0;
            int changed = NONE;
            book.spellFirst(values);
            for (int i = 0; i < inputs; i++) {
                for (int slot = first; slot < behind && slot < reach.length; slot++) {
                    if (reach[slot] >= changed) {
                        boolean holds = machine.run(book, slot, values, values) != 0;
                        bits = holds ? bits | 1 << slot : bits & ~(1 << slot);
                    }
                }
                marks[i] |= bits;
                changed = book.advance(values);
            }
        }

        private void countStanding() {
            Arrays.fill(standing, 0);
            int inputs = Math.min(book.inputs, marks.length);
            for (int i = 0; i < inputs; i++) {
                standing[marks[i] & SET_MASK]++;
            }
            addSupersets(standing, book.toldOf(LAW));
        }

        /** Those of which the laws hold that are ON, and what sets of soft ones hold of one of them. */
        private void gather() {
            int inputs = Math.min(book.inputs, Math.min(marks.length, order.length));
            size = 0;
            Arrays.fill(softSeen, 0);
            for (int i = 0; i < inputs; i++) {
                if ((marks[i] & on) == on) {
                    order[size] = i;
                    size++;
                    softSeen[marks[i] >> MOST_OF_A_SORT * SOFT & SET_MASK] = 1;
                }
            }
        }

        private void keepSoft() {
            kept = 0;
            int tried = 0;
            for (int n = 0; n < book.toldOf(SOFT); n++) {
                int soft = 1 << heaviest(tried);
                tried |= soft;
                if (canKeep(kept | soft)) {
                    kept |= soft;
                }
            }
        }

        private boolean canKeep(int wanted) {
            for (int set = 0; set < SETS; set++) {
                if ((set & wanted) == wanted && softSeen[set] != 0) {
                    return true;
                }
            }
            return false;
        }

        private int heaviest(int tried) {
            int found = 0;
            int weight = NONE;
            for (int s = 0; s < book.toldOf(SOFT) && s < book.weight.length; s++) {
                if ((tried >> s & 1) == 0 && book.weight[s] > weight) {
                    found = s;
                    weight = book.weight[s];
                }
            }
            return found;
        }

        /** Leaves those LAWFUL of which the soft ones hold that are KEPT. */
        private void narrow() {
            int needed = kept << MOST_OF_A_SORT * SOFT;
            int left = 0;
            for (int k = 0; k < size && k < order.length; k++) {
                int input = order[k];
                if ((marksOf(input) & needed) == needed) {
                    order[left] = input;
                    left++;
                }
            }
            size = left;
        }

        int marksOf(int input) {
            return input >= 0 && input < marks.length ? marks[input] : 0;
        }

        int binsOf(int input) {
            return marksOf(input) >> MOST_OF_A_SORT * BIN & SET_MASK;
        }

        int inputOf(int k) {
            return k >= 0 && k < size && k < order.length ? order[k] : 0;
        }

        boolean isLawful(int input) {
            int needed = on | kept << MOST_OF_A_SORT * SOFT;
            return (marksOf(input) & needed) == needed;
        }

        void refreshBins() {
            refresh();
            if (!binsMarked) {
                mark(BIN);
                binsMarked = true;
            }
        }

        void refreshShares() {
            refresh();
            if (!sharesTold) {
                tellShares();
                sharesTold = true;
            }
            if (!summed) {
                addShares();
                summed = true;
            }
        }

        private void tellShares() {
            if (shares.length < marks.length) {
                shares = new int[marks.length];
            }
            int inputs = Math.min(book.inputs, shares.length);
            int reach = reachOfShares();
            int told = 1;
            int changed = NONE;
            book.spellFirst(values);
            for (int i = 0; i < inputs; i++) {
                if (reach >= changed) {
                    told = shareNow();
                }
                shares[i] = told;
                changed = book.advance(values);
            }
        }

        private int reachOfShares() {
            int reach = NONE;
            for (int n = 0; n < book.toldOf(SHARE); n++) {
                reach = Math.max(reach, book.reachOf(SHARE * MOST_OF_A_SORT + n));
                reach = Math.max(reach, book.reachOf(SHARE_IF * MOST_OF_A_SORT + n));
            }
            return reach;
        }

        private int shareNow() {
            for (int n = 0; n < book.toldOf(SHARE); n++) {
                int condition = SHARE_IF * MOST_OF_A_SORT + n;
                if (book.isEmpty(condition) || machine.run(book, condition, values, values) != 0) {
                    int told = machine.run(book, SHARE * MOST_OF_A_SORT + n, values, values);
                    return Math.max(0, Math.min(MOST_SHARE, told));
                }
            }
            return 1;
        }

        private void addShares() {
            total = 0;
            for (int k = 0; k < size; k++) {
                total += shareOf(k);
                if (k / BLOCK < BLOCKS) {
                    blockEnds[k / BLOCK] = total;
                }
            }
        }

        int shareOf(int k) {
            int input = inputOf(k);
            return input >= 0 && input < shares.length ? shares[input] : 0;
        }

        int drawnBy(int x) {
            if (x < 0 || x >= total) {
                return NONE;
            }
            int block = 0;
            while (block < BLOCKS - 1 && blockEnds[block] <= x) {
                block++;
            }
            int left = block > 0 ? x - blockEnds[block - 1] : x;
            for (int k = block * BLOCK; k < size; k++) {
                left -= shareOf(k);
                if (left < 0) {
                    return k;
                }
            }
            return NONE;
        }

        int refusedByAlone(int law) {
            return standing[on & ~(1 << law) & SET_MASK] - standing[on & SET_MASK];
        }

        int smallestQuarrel() {
            if (standing[on & SET_MASK] > 0) {
                return NONE;
            }
            int found = on;
            for (int set = 1; set < SETS; set++) {
                if ((set & ~on) == 0 && standing[set] == 0 && isAhead(set, found)) {
                    found = set;
                }
            }
            return found;
        }

        private static boolean isAhead(int set, int other) {
            int more = Integer.bitCount(set) - Integer.bitCount(other);
            return more < 0 || more == 0 && (set & Integer.lowestOneBit(set ^ other)) != 0;
        }
    }

    /** Turns counts of exact sets of so many members into counts of all sets that have at least those members. */
    private static void addSupersets(int[] counts, int members) {
        int sets = Math.min(counts.length, 1 << members);
        for (int bit = 1; bit < sets && bit < SETS; bit <<= 1) {
            for (int set = 0; set < sets; set++) {
                if ((set & bit) == 0 && (set | bit) < sets) {
                    counts[set] += counts[set | bit];
                }
            }
        }
    }

    /** THE LOG. */
    private static final class Log {
        private final int[] inputs = new int[MOST_LOGGED];
        int size = 0;

        void add(int input) {
            if (size < inputs.length) {
                inputs[size] = input;
                size++;
            }
        }

        int inputOf(int i) {
            return i >= 0 && i < size && i < inputs.length ? inputs[i] : 0;
        }

        int meeting(Chart chart, int bin) {
            int met = 0;
            for (int i = 0; i < size; i++) {
                met += chart.binsOf(inputOf(i)) >> bin & 1;
            }
            return met;
        }

        /** The bins without HITS, as bits. */
        int unmet(Chart chart) {
            int met = 0;
            for (int i = 0; i < size; i++) {
                met |= chart.binsOf(inputOf(i));
            }
            return SET_MASK & ~met;
        }

        int unlawful(Chart chart, int n) {
            int before = 0;
            for (int i = 0; i < size && n >= 0; i++) {
                if (!chart.isLawful(inputOf(i))) {
                    if (before == n) {
                        return i;
                    }
                    before++;
                }
            }
            return NONE;
        }
    }

    /** Which sets of bins LAWFUL INPUTS meet, and the FILL. */
    private static final class BinTable {
        // How many LAWFUL INPUTS meet all bins of a set.
        private final int[] meeting = new int[SETS];
        // Each set of bins that is all that some LAWFUL INPUT meets, with the first such INPUT, in the order of these: the
        // first set that will do has the least INPUT.
        private final int[] seen = new int[SETS];
        private final int[] firstOf = new int[SETS];
        private final int[] lowestHeight = new int[MOST_OF_A_SORT];
        private final int[] lowestAt = new int[MOST_OF_A_SORT];
        // How many LAWFUL INPUTS it takes to meet all bins of a set.
        private final int[] fewest = new int[SETS];
        private int seenSize = 0;
        private int target = 0;
        private boolean fresh = false;
        private boolean lowestFresh = false;
        boolean planned = false;

        void forget() {
            fresh = false;
            lowestFresh = false;
            planned = false;
        }

        void refresh(Chart chart) {
            if (fresh) {
                return;
            }
            Arrays.fill(meeting, 0);
            seenSize = 0;
            for (int k = 0; k < chart.size; k++) {
                int met = chart.binsOf(chart.inputOf(k)) & SET_MASK;
                if (meeting[met] == 0 && seenSize < SETS) {
                    seen[seenSize] = met;
                    firstOf[seenSize] = k;
                    seenSize++;
                }
                meeting[met]++;
            }
            addSupersets(meeting, chart.book.toldOf(BIN));
            fresh = true;
        }

        void refreshLowest(Chart chart) {
            if (lowestFresh) {
                return;
            }
            Arrays.fill(lowestHeight, FAR);
            Arrays.fill(lowestAt, NONE);
            for (int k = 0; k < chart.size; k++) {
                int input = chart.inputOf(k);
                int met = chart.binsOf(input);
                if (met != 0) {
                    noteHeight(k, met, chart.book.heightOf(input));
                }
            }
            lowestFresh = true;
        }

        private void noteHeight(int k, int met, int height) {
            for (int bin = 0; bin < MOST_OF_A_SORT; bin++) {
                if ((met >> bin & 1) != 0 && height < lowestHeight[bin]) {
                    lowestHeight[bin] = height;
                    lowestAt[bin] = k;
                }
            }
        }

        int meetingAll(int set) {
            return meeting[set & SET_MASK];
        }

        int lowest(int bin) {
            return bin >= 0 && bin < lowestAt.length ? lowestAt[bin] : NONE;
        }

        int meetingMost(int wanted) {
            int found = NONE;
            int most = NONE;
            for (int n = 0; n < seenSize && n < SETS; n++) {
                int met = Integer.bitCount(seen[n] & wanted);
                if (met > most) {
                    found = firstOf[n];
                    most = met;
                }
            }
            return found;
        }

        void plan(Chart chart, Log log) {
            if (planned) {
                return;
            }
            target = 0;
            int unmet = log.unmet(chart);
            for (int bin = 0; bin < chart.book.toldOf(BIN); bin++) {
                if ((unmet >> bin & 1) != 0 && meetingAll(1 << bin) > 0) {
                    target |= 1 << bin;
                }
            }
            fewest[0] = 0;
            for (int set = 1; set <= target && set < SETS; set++) {
                if ((set & ~target) == 0) {
                    fewest[set] = fewestFor(set);
                }
            }
            planned = true;
        }

        /** Some INPUT must meet the set's first bin, so only those that do are tried for it. */
        private int fewestFor(int set) {
            int firstBin = Integer.lowestOneBit(set);
            int found = FAR;
            for (int n = 0; n < seenSize && n < SETS; n++) {
                if ((seen[n] & firstBin) != 0) {
                    found = Math.min(found, fewest[set & ~seen[n] & SET_MASK] + 1);
                }
            }
            return found;
        }

        int planSize() {
            return fewest[target & SET_MASK];
        }

        /**
         * The least INPUT with which so few are enough is always the next one: a lesser one among those that come
         * later would have been taken itself.
         */
        int planMember(int n) {
            if (n < 0 || n >= planSize()) {
                return NONE;
            }
            int rest = target;
            int found = NONE;
            for (int step = 0; step <= n && step < MOST_OF_A_SORT; step++) {
                int chosen = leastStep(rest);
                found = firstOf[chosen];
                rest &= ~seen[chosen];
            }
            return found;
        }

        private int leastStep(int rest) {
            int wanted = fewest[rest & SET_MASK] - 1;
            for (int n = 0; n < seenSize && n < SETS; n++) {
                if (fewest[rest & ~seen[n] & SET_MASK] == wanted) {
                    return n;
                }
            }
            return 0;
        }
    }

    /** ROWS of LAWFUL INPUTS. */
    private static final class Chains {
        private final Machine machine = new Machine();
        private final int[] now = new int[FIELD_PLACES];
        private final int[] old = new int[FIELD_PLACES];
        // For each LAWFUL INPUT those that may come behind it, as bits.
        private final long[] behind = new long[MOST_IN_ROWS];
        // How many ROWS of a length begin with a LAWFUL INPUT: those of length 1, then of length 2, and so on.
        private final long[] ways = new long[LONGEST_ROW * MOST_IN_ROWS];
        private int size = 0;
        boolean fresh = false;

        void refresh(Chart chart) {
            if (fresh) {
                return;
            }
            size = Math.min(chart.size, MOST_IN_ROWS);
            for (int k = 0; k < size; k++) {
                chart.book.spell(chart.inputOf(k), old);
                behind[k] = followersOfOld(chart);
            }
            for (int length = 1; length <= LONGEST_ROW; length++) {
                for (int k = 0; k < size; k++) {
                    ways[indexOf(length, k)] = length == 1 ? 1 : waysOver(length - 1, behind[k]);
                }
            }
            fresh = true;
        }

        private long followersOfOld(Chart chart) {
            long followers = 0;
            for (int k = 0; k < size; k++) {
                chart.book.spell(chart.inputOf(k), now);
                if (allNextsHold(chart.book)) {
                    followers |= 1L << k;
                }
            }
            return followers;
        }

        private boolean allNextsHold(Book book) {
            for (int n = 0; n < book.toldOf(NEXT); n++) {
                if (machine.run(book, NEXT * MOST_OF_A_SORT + n, now, old) == 0) {
                    return false;
                }
            }
            return true;
        }

        private static int indexOf(int length, int k) {
            int index = (length - 1) * MOST_IN_ROWS + k;
            return Math.max(0, Math.min(LONGEST_ROW * MOST_IN_ROWS - 1, index));
        }

        private long waysOver(int length, long firsts) {
            long found = 0;
            for (int k = 0; k < size; k++) {
                if ((firsts >> k & 1) != 0) {
                    found += ways[indexOf(length, k)];
                }
            }
            return found;
        }

        long ofLength(int length) {
            return waysOver(length, -1L);
        }

        int member(int length, long number, int place) {
            long left = number;
            long allowed = -1L;
            int chosen = NONE;
            for (int p = 0; p <= place && p < length; p++) {
                chosen = NONE;
                for (int k = 0; k < size && chosen == NONE; k++) {
                    long ahead = (allowed >> k & 1) != 0 ? ways[indexOf(length - p, k)] : 0;
                    if (left < ahead) {
                        chosen = k;
                    } else {
                        left -= ahead;
                    }
                }
                if (chosen == NONE) {
                    return NONE;
                }
                allowed = behind[chosen];
            }
            return chosen;
        }
    }
}
