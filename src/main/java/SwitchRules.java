/**
 * Switches that are judged as they are read, run, and made into tables.
 * The document DOC.md says what each call promises.
 */
public final class SwitchRules {

    private static final int TEXT_ROOM = 3000;
    private static final int TOKEN_ROOM = TEXT_ROOM + 1;
    private static final int SIGNS = 8;
    private static final int FIGURES = 9;

    private static final int ENUMERATIONS = 4;
    private static final int CONSTANTS = 16;
    private static final int LABELS = 32;
    private static final int ARMS = 20;
    private static final int STMTS = 120;
    private static final int DEPTH = 10;
    private static final int NAMES = 20;

    /** A stmt makes two steps at most (an if and the way around its else), an arm one more. */
    private static final int CODE_ROOM = 2 * STMTS + ARMS;

    private static final int NONE_SUCH = -1;
    private static final int OUTSIDE = -2;
    private static final int NO_UNIT = -3;
    private static final int NO_ROOM = -4;
    private static final int FAULTY = -10;

    private static final int NO_TOKEN = 1;
    private static final int CANT_COME = 2;
    private static final int TWICE = 3;
    private static final int MIXED = 4;
    private static final int WRONG_SORT = 5;
    private static final int IN_SCOPE = 6;
    private static final int NOT_SET = 7;
    private static final int WRONG_LEAVE = 8;
    private static final int NOT_REACHED = 9;
    private static final int FALLEN_OFF = 10;
    private static final int NOT_EXHAUSTIVE = 11;
    private static final int TOO_MUCH = 12;

    /** What is read once a fault is found: it fits nowhere, so that all reading ends. */
    private static final int STOPPED = 0;
    /** The words have the kinds 1 to 15, in the order in which Tokens holds them. */
    private static final int ENUM = 1;
    private static final int SWITCH = 2;
    private static final int VALUE = 3;
    private static final int NUMBER_WORD = 4;
    private static final int TEXT_WORD = 5;
    private static final int CASE = 6;
    private static final int DEFAULT = 7;
    private static final int ADD = 8;
    private static final int LET = 9;
    private static final int USE = 10;
    private static final int BREAK = 11;
    private static final int YIELD = 12;
    private static final int THROW = 13;
    private static final int IF = 14;
    private static final int ELSE = 15;
    private static final int NAME = 16;
    private static final int NUMBER = 17;
    private static final int TEXT = 18;
    private static final int OPEN = 19;
    private static final int CLOSE = 20;
    private static final int COLON = 21;
    private static final int SEMICOLON = 22;
    private static final int COMMA = 23;
    private static final int EQUAL = 24;
    private static final int MINUS = 25;
    private static final int ARROW = 26;
    private static final int END = 27;
    private static final int BAD = 28;

    private static final int NUMBERS = 0;
    private static final int TEXTS = 1;
    private static final int CONSTANT_NAMES = 2;

    private static final int STEP_ADD = 0;
    private static final int STEP_USE = 1;
    private static final int STEP_SET = 2;
    private static final int STEP_IF = 3;
    private static final int STEP_GO = 4;
    private static final int STEP_END = 5;

    private static final int ENDS = 1;
    private static final int YIELDS = 2;
    private static final int THROWS = 3;
    private static final int NO_SELECTOR = 4;
    private static final int CAME_LATER = 5;

    private static final int TABLE = 1;
    private static final int LOOK_UP = 2;

    /** Eight octets of 255: no label has such a sign. */
    private static final long NO_TEXT = -1L;
    /** Has bits that no set of names has, so it differs from each of them. */
    private static final int ALL_SET = -1;

    private final Octets text;
    private final Tokens tokens;
    private final Unit unit;
    private final Judge judge;
    private final Table table;
    private final Runner runner;

    public SwitchRules() {
        text = new Octets();
        tokens = new Tokens();
        unit = new Unit();
        judge = new Judge(tokens, unit);
        table = new Table();
        runner = new Runner();
    }

    public int type(long v, int n) {
        if (n < 0 || n > 8) {
            return OUTSIDE;
        }
        if (n == 0) {
            text.length = 0;
            return 0;
        }
        if (!text.append(v, n)) {
            return NO_ROOM;
        }
        return text.length;
    }

    public int read() {
        tokens.cut(text);
        text.length = 0;
        runner.forget();
        judge.begin();
        judge.enumerations();
        judge.selector();
        judge.arms();
        judge.end();
        unit.there = judge.fault == 0;
        table.make(unit);
        return unit.there ? unit.arms : FAULTY - judge.fault;
    }

    public int place() {
        return judge.place;
    }

    public int told(int what) {
        if (what < 0 || what > 7) {
            return OUTSIDE;
        }
        if (!unit.there) {
            return NO_UNIT;
        }
        switch (what) {
            case 0:
                return unit.isValue ? 1 : 0;
            case 1:
                return unit.sort;
            case 2:
                return unit.arms;
            case 3:
                return unit.labels;
            case 4:
                return unit.stmts;
            case 5:
                return unit.defaultArm;
            case 6:
                return unit.hasOldArms ? 1 : 0;
            default:
                return unit.constants;
        }
    }

    public int label(int i, int what) {
        if (!unit.there) {
            return NO_UNIT;
        }
        if (i < 0 || i >= unit.labels || i >= LABELS) {
            return NONE_SUCH;
        }
        if (what < 0 || what > 1) {
            return OUTSIDE;
        }
        return what == 0 ? unit.labelArms[i] : unit.labelKeys[i];
    }

    public int run(int v, int flags) {
        if (!unit.there) {
            return NO_UNIT;
        }
        if (unit.sort == CONSTANT_NAMES && v < 0) {
            return OUTSIDE;
        }
        int arm = unit.armFor(unit.sort == TEXTS ? text.whole() : v);
        runner.begin();
        if (arm < 0) {
            return unit.isValue ? CAME_LATER : ENDS;
        }
        return runner.go(unit.code, unit.startOf(arm), flags);
    }

    public int runNone() {
        if (!unit.there) {
            return NO_UNIT;
        }
        runner.begin();
        return NO_SELECTOR;
    }

    public int traced() {
        return runner.hasRun ? runner.traceLength : NO_UNIT;
    }

    public int trace(int i) {
        return i >= 0 && i < runner.traceLength && i < STMTS ? runner.trace[i] : 0;
    }

    public int value() {
        return runner.result;
    }

    public int form() {
        if (!unit.there) {
            return NO_UNIT;
        }
        return table.isDense() ? TABLE : LOOK_UP;
    }

    public int keys() {
        return unit.there ? table.count : NO_UNIT;
    }

    public int key(int i) {
        return table.has(i) ? table.keys[i] : 0;
    }

    public int target(int i) {
        if (!unit.there) {
            return NO_UNIT;
        }
        return table.has(i) ? table.targets[i] : NONE_SUCH;
    }

    public int alike(int i) {
        if (!unit.there) {
            return NO_UNIT;
        }
        return table.has(i) ? table.alikes[i] : NONE_SUCH;
    }

    public int hash() {
        return text.wholeHash();
    }

    /** THE TEXT. Names and texts of up to 8 octets are packed into a long, the first octet highest. */
    private static final class Octets {
        private final char[] octets = new char[TEXT_ROOM];
        private int length;

        /** Octet i, from 0 to 255; -1 where there is none. */
        int at(int i) {
            return i >= 0 && i < length && i < octets.length ? octets[i] : -1;
        }

        boolean append(long v, int n) {
            if (n > octets.length - length) {
                return false;
            }
            for (int i = n - 1; i >= 0; i--) {
                octets[length] = (char) ((v >>> (8 * i)) & 255);
                length++;
            }
            return true;
        }

        long packed(int from, int to) {
            long all = 0;
            for (int i = from; i < to; i++) {
                all = (all << 8) | at(i);
            }
            return all;
        }

        /** All octets packed, or NO_TEXT where no label can have them: an octet 0 would be lost in packing. */
        long whole() {
            if (length > SIGNS) {
                return NO_TEXT;
            }
            for (int i = 0; i < length; i++) {
                if (at(i) == 0) {
                    return NO_TEXT;
                }
            }
            return packed(0, length);
        }

        int wholeHash() {
            int all = 0;
            for (int i = 0; i < length; i++) {
                all = 31 * all + at(i);
            }
            return all;
        }
    }

    /** THE TEXT cut into tokens; the last one is END, or BAD where none begins or one is too long. */
    private static final class Tokens {
        private final byte[] kinds = new byte[TOKEN_ROOM];
        private final short[] places = new short[TOKEN_ROOM];
        /** A number's value; the packed signs of a name or a text. */
        private final long[] values = new long[TOKEN_ROOM];
        private final long[] words;
        private int count;

        Tokens() {
            words = new long[] {
                packedWord("enum"), packedWord("switch"), packedWord("value"), packedWord("number"),
                packedWord("text"), packedWord("case"), packedWord("default"), packedWord("add"),
                packedWord("let"), packedWord("use"), packedWord("break"), packedWord("yield"),
                packedWord("throw"), packedWord("if"), packedWord("else")
            };
        }

        private static long packedWord(String word) {
            long all = 0;
            for (int i = 0; i < word.length(); i++) {
                all = (all << 8) | word.charAt(i);
            }
            return all;
        }

        void cut(Octets text) {
            count = 0;
            int from = 0;
            for (int i = 0; i < TOKEN_ROOM; i++) {
                from = behindBlanks(text, from);
                int sign = text.at(from);
                if (sign < 0) {
                    keep(END, text.length, 0);
                    return;
                }
                int to = cutOne(text, from, sign);
                if (to <= from) {
                    keep(BAD, from, 0);
                    return;
                }
                from = to;
            }
        }

        private static int behindBlanks(Octets text, int from) {
            for (int i = from; i < text.length; i++) {
                int sign = text.at(i);
                if (sign != ' ' && sign != '\t' && sign != '\n' && sign != '\r') {
                    return i;
                }
            }
            return text.length;
        }

        /** The place behind the token that begins at from; from itself where none does. */
        private int cutOne(Octets text, int from, int sign) {
            if (isSmall(sign)) {
                return cutName(text, from);
            }
            if (isFigure(sign)) {
                return cutNumber(text, from);
            }
            if (sign == '"') {
                return cutText(text, from);
            }
            if (sign == '-' && text.at(from + 1) == '>') {
                keep(ARROW, from, 0);
                return from + 2;
            }
            int kind = signKind(sign);
            if (kind == BAD) {
                return from;
            }
            keep(kind, from, 0);
            return from + 1;
        }

        private int cutName(Octets text, int from) {
            int to = from;
            while (to < text.length && (isSmall(text.at(to)) || isFigure(text.at(to)))) {
                to++;
            }
            if (to - from > SIGNS) {
                return from;
            }
            long packed = text.packed(from, to);
            keep(nameKind(packed), from, packed);
            return to;
        }

        private int nameKind(long packed) {
            for (int i = 0; i < words.length; i++) {
                if (words[i] == packed) {
                    return ENUM + i;
                }
            }
            return NAME;
        }

        private int cutNumber(Octets text, int from) {
            int to = from;
            long number = 0;
            while (to < text.length && isFigure(text.at(to))) {
                number = 10 * number + (text.at(to) - '0');
                to++;
            }
            if (to - from > FIGURES) {
                return from;
            }
            keep(NUMBER, from, number);
            return to;
        }

        private int cutText(Octets text, int from) {
            int to = from + 1;
            while (to < text.length && isTextSign(text.at(to))) {
                to++;
            }
            if (text.at(to) != '"' || to - from - 1 > SIGNS) {
                return from;
            }
            keep(TEXT, from, text.packed(from + 1, to));
            return to + 1;
        }

        private static boolean isSmall(int sign) {
            return sign >= 'a' && sign <= 'z';
        }

        private static boolean isFigure(int sign) {
            return sign >= '0' && sign <= '9';
        }

        private static boolean isTextSign(int sign) {
            return isSmall(sign) || isFigure(sign) || (sign >= 'A' && sign <= 'Z');
        }

        private static int signKind(int sign) {
            switch (sign) {
                case '{':
                    return OPEN;
                case '}':
                    return CLOSE;
                case ':':
                    return COLON;
                case ';':
                    return SEMICOLON;
                case ',':
                    return COMMA;
                case '=':
                    return EQUAL;
                case '-':
                    return MINUS;
                default:
                    return BAD;
            }
        }

        private void keep(int kind, int place, long packed) {
            if (count >= TOKEN_ROOM) {
                return;
            }
            kinds[count] = (byte) kind;
            places[count] = (short) place;
            values[count] = packed;
            count++;
        }
    }

    /** The steps of all arms, one behind the other; every step goes forward alone, so each run ends. */
    private static final class Code {
        private final byte[] kinds = new byte[CODE_ROOM];
        private final int[] firsts = new int[CODE_ROOM];
        private final int[] seconds = new int[CODE_ROOM];
        private int length;

        void step(int kind, int first, int second) {
            if (length >= CODE_ROOM) {
                return;
            }
            kinds[length] = (byte) kind;
            firsts[length] = first;
            seconds[length] = second;
            length++;
        }

        /** Lets the step at i go on where the next step will be. */
        void leadHere(int i) {
            if (i >= 0 && i < length) {
                firsts[i] = length;
            }
        }
    }

    /** What was read. */
    private static final class Unit {
        private boolean there;
        private boolean isValue;
        private int sort;
        private int constants;
        private int arms;
        private int labels;
        private int stmts;
        private int defaultArm = -1;
        private boolean hasOldArms;
        private final int[] armStarts = new int[ARMS];
        private final int[] labelArms = new int[LABELS];
        private final int[] labelKeys = new int[LABELS];
        /** What tells labels of one sort apart: a number, a constant's place, a text's packed signs. */
        private final long[] labelSigns = new long[LABELS];
        private final Code code = new Code();

        void clear() {
            constants = 0;
            arms = 0;
            labels = 0;
            stmts = 0;
            defaultArm = -1;
            hasOldArms = false;
            code.length = 0;
        }

        void addArm() {
            if (arms < ARMS) {
                armStarts[arms] = code.length;
                arms++;
            }
        }

        int startOf(int arm) {
            return arm >= 0 && arm < ARMS ? armStarts[arm] : code.length;
        }

        /** A label of the latest arm. */
        void addLabel(long sign) {
            if (labels < LABELS) {
                labelArms[labels] = arms - 1;
                labelSigns[labels] = sign;
                labelKeys[labels] = sort == TEXTS ? packedHash(sign) : (int) sign;
                labels++;
            }
        }

        /** Octets of 0 ahead of the signs leave the hash at 0, so they need not be passed over. */
        private static int packedHash(long packed) {
            int all = 0;
            for (int i = SIGNS - 1; i >= 0; i--) {
                all = 31 * all + (int) ((packed >>> (8 * i)) & 255);
            }
            return all;
        }

        boolean hasLabel(long sign) {
            return labelWith(sign) >= 0;
        }

        private int labelWith(long sign) {
            for (int i = 0; i < labels && i < LABELS; i++) {
                if (labelSigns[i] == sign) {
                    return i;
                }
            }
            return -1;
        }

        /** The arm at which a run with this selector begins; -1 if there is none. */
        int armFor(long sign) {
            int i = labelWith(sign);
            return i >= 0 ? labelArms[i] : defaultArm;
        }

        boolean isExhaustive() {
            return defaultArm >= 0 || (sort == CONSTANT_NAMES && labels == constants);
        }
    }

    /**
     * The names in SCOPE, and which are SET. Behind what can't END all are SET, and nowhere else:
     * so ALL_SET also tells that the next stmt can't be REACHED.
     */
    private static final class Scope {
        private final long[] names = new long[NAMES];
        private int count;
        private int set;

        int find(long name) {
            for (int i = 0; i < count && i < NAMES; i++) {
                if (names[i] == name) {
                    return i;
                }
            }
            return -1;
        }

        /** Its number, by which it is SET later on. */
        int add(long name) {
            if (count >= NAMES) {
                return -1;
            }
            names[count] = name;
            count++;
            return count - 1;
        }

        /** What is no more in SCOPE must not look SET when a new name takes its number. */
        void shrink(int toCount) {
            count = toCount;
            if (set != ALL_SET) {
                set &= (1 << toCount) - 1;
            }
        }

        boolean isSet(int name) {
            return name >= 0 && ((set >>> name) & 1) == 1;
        }

        void makeSet(int name) {
            if (name >= 0) {
                set |= 1 << name;
            }
        }

        boolean isReached() {
            return set != ALL_SET;
        }
    }

    /** Reads the tokens into the unit, up to the first fault. */
    private static final class Judge {
        private final Tokens tokens;
        private final Unit unit;
        private final Scope scope = new Scope();
        private final long[] enumerationNames = new long[ENUMERATIONS];
        private final int[] constantCounts = new int[ENUMERATIONS];
        private final long[] constantNames = new long[ENUMERATIONS * CONSTANTS];
        private int enumerationCount;
        /** The enumeration of the selector. */
        private int chosen;
        private int at;
        private int fault;
        private int place = -1;

        Judge(Tokens tokens, Unit unit) {
            this.tokens = tokens;
            this.unit = unit;
        }

        void begin() {
            unit.clear();
            scope.count = 0;
            scope.set = 0;
            enumerationCount = 0;
            chosen = -1;
            at = 0;
            fault = 0;
            place = -1;
        }

        private int kind() {
            return fault == 0 && at >= 0 && at < tokens.count && at < TOKEN_ROOM ? tokens.kinds[at] : STOPPED;
        }

        private long tokenValue() {
            return at >= 0 && at < TOKEN_ROOM ? tokens.values[at] : 0;
        }

        /** Only the first fault counts. What can't come there and is no token is the lesser fault. */
        private void fail(int number, int token) {
            if (fault != 0 || token < 0 || token >= TOKEN_ROOM) {
                return;
            }
            fault = number == CANT_COME && tokens.kinds[token] == BAD ? NO_TOKEN : number;
            place = tokens.places[token];
        }

        private void expect(int kind) {
            if (kind() == kind) {
                at++;
            } else {
                fail(CANT_COME, at);
            }
        }

        void enumerations() {
            for (int i = 0; i <= ENUMERATIONS && kind() == ENUM; i++) {
                at++;
                enumeration();
            }
        }

        private void enumeration() {
            if (kind() != NAME) {
                fail(CANT_COME, at);
            } else if (findEnumeration(tokenValue()) >= 0) {
                fail(TWICE, at);
            } else if (enumerationCount >= ENUMERATIONS) {
                fail(TOO_MUCH, at);
            } else {
                enumerationNames[enumerationCount] = tokenValue();
                constantCounts[enumerationCount] = 0;
                enumerationCount++;
                at++;
                expect(OPEN);
                constants(enumerationCount - 1);
                expect(CLOSE);
            }
        }

        private void constants(int enumeration) {
            constant(enumeration);
            for (int i = 0; i < CONSTANTS && kind() == COMMA; i++) {
                at++;
                constant(enumeration);
            }
        }

        private void constant(int enumeration) {
            int count = constantCount(enumeration);
            if (kind() != NAME) {
                fail(CANT_COME, at);
            } else if (findConstant(enumeration, tokenValue()) >= 0) {
                fail(TWICE, at);
            } else if (enumeration < 0 || enumeration >= ENUMERATIONS || count >= CONSTANTS) {
                fail(TOO_MUCH, at);
            } else {
                constantNames[enumeration * CONSTANTS + count] = tokenValue();
                constantCounts[enumeration] = count + 1;
                at++;
            }
        }

        private int findEnumeration(long name) {
            for (int i = 0; i < enumerationCount && i < ENUMERATIONS; i++) {
                if (enumerationNames[i] == name) {
                    return i;
                }
            }
            return -1;
        }

        private int constantCount(int enumeration) {
            return enumeration >= 0 && enumeration < ENUMERATIONS ? constantCounts[enumeration] : 0;
        }

        private int findConstant(int enumeration, long name) {
            int count = constantCount(enumeration);
            for (int i = 0; i < count && i < CONSTANTS; i++) {
                if (constantNames[enumeration * CONSTANTS + i] == name) {
                    return i;
                }
            }
            return -1;
        }

        void selector() {
            if (kind() != SWITCH && kind() != VALUE) {
                fail(CANT_COME, at);
                return;
            }
            unit.isValue = kind() == VALUE;
            at++;
            if (kind() == NUMBER_WORD) {
                unit.sort = NUMBERS;
            } else if (kind() == TEXT_WORD) {
                unit.sort = TEXTS;
            } else if (kind() == NAME) {
                chooseEnumeration();
            } else {
                fail(CANT_COME, at);
            }
            at++;
            expect(OPEN);
        }

        private void chooseEnumeration() {
            chosen = findEnumeration(tokenValue());
            if (chosen < 0) {
                fail(WRONG_SORT, at);
            }
            unit.sort = CONSTANT_NAMES;
            unit.constants = constantCount(chosen);
        }

        void arms() {
            for (int i = 0; i <= ARMS && (kind() == CASE || kind() == DEFAULT); i++) {
                arm(i);
            }
        }

        private void arm(int number) {
            boolean isDefault = kind() == DEFAULT;
            if (isDefault && unit.defaultArm >= 0) {
                fail(TWICE, at);
            } else if (number >= ARMS) {
                fail(TOO_MUCH, at);
            }
            if (fault != 0) {
                return;
            }
            unit.addArm();
            at++;
            if (isDefault) {
                unit.defaultArm = number;
            } else {
                labels();
            }
            if (kind() != COLON && kind() != ARROW) {
                fail(CANT_COME, at);
                return;
            }
            boolean isOld = kind() == COLON;
            if (number > 0 && isOld != unit.hasOldArms) {
                fail(MIXED, at);
            }
            unit.hasOldArms = isOld;
            at++;
            scope.set = 0;
            if (isOld) {
                stmts(0);
            } else {
                body();
            }
        }

        private void labels() {
            oneLabel();
            for (int i = 0; i < LABELS && kind() == COMMA; i++) {
                at++;
                oneLabel();
            }
        }

        /** A label's own faults stand at its first token. */
        private void oneLabel() {
            int first = at;
            boolean isMinus = kind() == MINUS;
            if (isMinus) {
                at++;
                judgeMinus(first);
            }
            int kind = kind();
            if (kind != NUMBER && (isMinus || (kind != TEXT && kind != NAME))) {
                fail(CANT_COME, at);
                return;
            }
            long sign = kind == NAME ? findConstant(chosen, tokenValue()) : tokenValue();
            if (isMinus) {
                sign = -sign;
            }
            boolean isOfSort = kind == NUMBER && unit.sort == NUMBERS
                || kind == TEXT && unit.sort == TEXTS
                || kind == NAME && unit.sort == CONSTANT_NAMES && sign >= 0;
            if (isOfSort && unit.hasLabel(sign)) {
                fail(TWICE, first);
            } else if (!isOfSort) {
                fail(WRONG_SORT, first);
            } else if (unit.labels >= LABELS) {
                fail(TOO_MUCH, first);
            }
            unit.addLabel(sign);
            at++;
        }

        /**
         * Only numbers begin with a minus: where they are no labels, it is wrong before the token behind it.
         * A label too much is so with any token behind it, but a number may make the lesser fault, a label twice.
         */
        private void judgeMinus(int minus) {
            if (unit.sort != NUMBERS) {
                fail(WRONG_SORT, minus);
            } else if (unit.labels >= LABELS && kind() != NUMBER) {
                fail(TOO_MUCH, minus);
            }
        }

        /** What stands behind an arrow. Such an arm has no names but those of its block. */
        private void body() {
            int kind = kind();
            boolean isYielded = unit.isValue && (kind == MINUS || kind == NUMBER);
            boolean isSimple = kind == ADD || kind == USE || kind == NAME || kind == BREAK;
            if (isYielded) {
                openStmt(0);
                yieldNumber();
                expect(SEMICOLON);
            } else if (kind == OPEN || kind == THROW || (isSimple && !unit.isValue)) {
                stmt(0);
            } else {
                fail(CANT_COME, at);
            }
            if (unit.isValue && kind == OPEN && scope.isReached()) {
                fail(FALLEN_OFF, at - 1);
            }
            unit.code.step(STEP_END, ENDS, 0);
        }

        private void stmts(int depth) {
            for (int i = 0; i <= STMTS && beginsStmt(kind()); i++) {
                stmt(depth);
            }
        }

        /** The kinds from ADD to IF are the words of all stmts. */
        private static boolean beginsStmt(int kind) {
            return kind == OPEN || kind == NAME || (kind >= ADD && kind <= IF);
        }

        /** What its first token tells of a stmt within depth others, the least fault first. */
        private void openStmt(int depth) {
            boolean isWrongLeave = unit.isValue ? kind() == BREAK : kind() == YIELD;
            if (kind() == NAME && scope.find(tokenValue()) < 0) {
                fail(NOT_SET, at);
            } else if (isWrongLeave) {
                fail(WRONG_LEAVE, at);
            } else if (!scope.isReached()) {
                fail(NOT_REACHED, at);
            } else if (unit.stmts >= STMTS || depth > DEPTH) {
                fail(TOO_MUCH, at);
            }
            unit.stmts++;
        }

        private void stmt(int depth) {
            if (!beginsStmt(kind())) {
                fail(CANT_COME, at);
            }
            openStmt(depth);
            if (fault != 0 || depth > DEPTH) {
                return;
            }
            switch (kind()) {
                case OPEN:
                    block(depth);
                    break;
                case IF:
                    branches(depth);
                    break;
                case LET:
                    at++;
                    let();
                    expect(SEMICOLON);
                    break;
                case YIELD:
                    at++;
                    yieldNumber();
                    expect(SEMICOLON);
                    break;
                default:
                    simple();
                    expect(SEMICOLON);
                    break;
            }
        }

        private void block(int depth) {
            int before = scope.count;
            at++;
            stmts(depth + 1);
            expect(CLOSE);
            scope.shrink(before);
        }

        private void branches(int depth) {
            int before = scope.set;
            int ifStep = unit.code.length;
            unit.code.step(STEP_IF, 0, 0);
            at++;
            stmt(depth + 1);
            int behindFirst = scope.set;
            scope.set = before;
            if (kind() == ELSE) {
                int goStep = unit.code.length;
                unit.code.step(STEP_GO, 0, 0);
                unit.code.leadHere(ifStep);
                at++;
                stmt(depth + 1);
                unit.code.leadHere(goStep);
            } else {
                unit.code.leadHere(ifStep);
            }
            scope.set &= behindFirst;
        }

        private void let() {
            if (kind() != NAME) {
                fail(CANT_COME, at);
            } else if (scope.find(tokenValue()) >= 0) {
                fail(IN_SCOPE, at);
            } else if (scope.count >= NAMES) {
                fail(TOO_MUCH, at);
            } else {
                int name = scope.add(tokenValue());
                at++;
                if (kind() == EQUAL) {
                    at++;
                    setName(name, number());
                }
            }
        }

        private void setName(int name, int number) {
            unit.code.step(STEP_SET, name, number);
            scope.makeSet(name);
        }

        private void simple() {
            int kind = kind();
            int name = scope.find(tokenValue());
            at++;
            if (kind == ADD) {
                unit.code.step(STEP_ADD, number(), 0);
            } else if (kind == USE) {
                useName();
            } else if (kind == NAME) {
                expect(EQUAL);
                setName(name, number());
            } else if (kind == BREAK) {
                leave(ENDS, 0);
            } else {
                leave(THROWS, number());
            }
        }

        private void useName() {
            int name = kind() == NAME ? scope.find(tokenValue()) : -1;
            if (kind() != NAME) {
                fail(CANT_COME, at);
            } else if (!scope.isSet(name)) {
                fail(NOT_SET, at);
            }
            unit.code.step(STEP_USE, name, 0);
            at++;
        }

        private void yieldNumber() {
            boolean isMinus = kind() == MINUS;
            if (isMinus) {
                at++;
            }
            int number = number();
            leave(YIELDS, isMinus ? -number : number);
        }

        private void leave(int how, int number) {
            unit.code.step(STEP_END, how, number);
            scope.set = ALL_SET;
        }

        private int number() {
            if (kind() != NUMBER) {
                fail(CANT_COME, at);
                return 0;
            }
            int number = (int) tokenValue();
            at++;
            return number;
        }

        /** The last brace and the end behind it. */
        void end() {
            if (kind() == CLOSE && unit.isValue) {
                if (unit.hasOldArms && scope.isReached()) {
                    fail(FALLEN_OFF, at);
                } else if (!unit.isExhaustive()) {
                    fail(NOT_EXHAUSTIVE, at);
                }
            }
            expect(CLOSE);
            expect(END);
        }
    }

    /** The KEYS of a unit, as they rise. */
    private static final class Table {
        private final int[] keys = new int[LABELS];
        private final int[] targets = new int[LABELS];
        private final int[] alikes = new int[LABELS];
        private int count;

        void make(Unit unit) {
            count = 0;
            if (!unit.there) {
                return;
            }
            for (int i = 0; i < unit.labels && i < LABELS; i++) {
                put(unit.labelKeys[i], unit.labelArms[i]);
            }
        }

        /** Labels come in the order of THE TEXT, so the first with a key has given it its target. */
        private void put(int key, int arm) {
            int i = 0;
            while (i < count && keys[i] < key) {
                i++;
            }
            if (i < count && keys[i] == key) {
                alikes[i]++;
            } else if (count < LABELS) {
                for (int j = count; j > i; j--) {
                    keys[j] = keys[j - 1];
                    targets[j] = targets[j - 1];
                    alikes[j] = alikes[j - 1];
                }
                keys[i] = key;
                targets[i] = arm;
                alikes[i] = 1;
                count++;
            }
        }

        boolean has(int i) {
            return i >= 0 && i < count && i < LABELS;
        }

        /** In long, as the span of 32-bit keys has 33 bits. */
        boolean isDense() {
            if (count <= 0 || count > LABELS) {
                return false;
            }
            long span = (long) keys[count - 1] - keys[0] + 1;
            return 4 + span + 9 <= 3 + 2L * count + 3L * count;
        }
    }

    /** The latest RUN. */
    private static final class Runner {
        private final int[] trace = new int[STMTS];
        private final int[] names = new int[NAMES];
        private int traceLength;
        private int result;
        private boolean hasRun;

        void forget() {
            begin();
            hasRun = false;
        }

        void begin() {
            traceLength = 0;
            result = 0;
            hasRun = true;
        }

        /** How the run ends that begins at the step start. */
        int go(Code code, int start, int flags) {
            int next = start;
            int left = flags;
            for (int i = 0; i < CODE_ROOM && next >= 0 && next < code.length && next < CODE_ROOM; i++) {
                int first = code.firsts[next];
                int second = code.seconds[next];
                int kind = code.kinds[next];
                next++;
                if (kind == STEP_ADD) {
                    addToTrace(first);
                } else if (kind == STEP_USE && isName(first)) {
                    addToTrace(names[first]);
                } else if (kind == STEP_SET && isName(first)) {
                    names[first] = second;
                } else if (kind == STEP_IF) {
                    next = (left & 1) == 1 ? next : first;
                    left >>>= 1;
                } else if (kind == STEP_GO) {
                    next = first;
                } else if (kind == STEP_END) {
                    result = second;
                    return first;
                }
            }
            return ENDS;
        }

        private static boolean isName(int name) {
            return name >= 0 && name < NAMES;
        }

        private void addToTrace(int number) {
            if (traceLength < STMTS) {
                trace[traceLength] = number;
                traceLength++;
            }
        }
    }
}
