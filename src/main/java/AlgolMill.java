import java.util.Arrays;

/**
 * Algol 60, the part with integers and truth values: a TEXT is made to the code of a machine with words of 36 bits
 * and run there.
 */
public final class AlgolMill {
    private static final int MOST_BYTES = 8192;
    private static final int BYTES_A_FEED = 20;
    private static final int MOST_STEPS = 20000;
    private static final int SYNTAX = 1;

    private final int[] text;
    private final Maker maker;
    private final Machine machine;
    private int length;
    private int fault;
    private int faultWhere;
    private boolean hasProgram;

    public AlgolMill() {
        text = new int[MOST_BYTES];
        maker = new Maker();
        machine = new Machine();
        faultWhere = -1;
    }

    public int feed(int a, int b, int c, int d, int e) throws IndexOutOfBoundsException {
        if (length + BYTES_A_FEED > MOST_BYTES) {
            throw new IndexOutOfBoundsException();
        }
        append(a);
        append(b);
        append(c);
        append(d);
        append(e);
        return length;
    }

    private void append(int number) {
        for (int shift = 24; shift >= 0; shift -= 8) {
            Rows.set(text, length, number >>> shift & 255);
            length++;
        }
    }

    public int end(int n) throws IllegalArgumentException {
        if (n < 0 || n > length) {
            throw new IllegalArgumentException();
        }
        length -= n;
        return length;
    }

    public int build() throws IllegalStateException {
        boolean made = maker.make(text, length);
        length = 0;
        fault = maker.fault();
        faultWhere = maker.faultWhere();
        if (!made) {
            throw new IllegalStateException();
        }
        machine.load(maker.code(), maker.owns());
        hasProgram = true;
        return maker.procedures();
    }

    public int run(int n) throws IllegalArgumentException, IllegalStateException {
        if (n < 1 || n > MOST_STEPS) {
            throw new IllegalArgumentException();
        }
        if (!hasProgram) {
            throw new IllegalStateException();
        }
        return machine.go(n);
    }

    public long out(int i) throws IllegalArgumentException {
        if (i < 0 || i >= machine.kept()) {
            throw new IllegalArgumentException();
        }
        return machine.printed(i);
    }

    public int count(int what) {
        switch (what) {
            case 0:
                return length;
            case 1:
                return fault;
            case 2:
                return faultWhere;
            default:
                return machine.tally(what);
        }
    }

    /** Rows read and written only where they are: a place outside reads 0 and takes nothing. */
    private static final class Rows {
        private Rows() {
        }

        static int get(int[] row, int at) {
            return at >= 0 && at < row.length ? row[at] : 0;
        }

        static long get(long[] row, int at) {
            return at >= 0 && at < row.length ? row[at] : 0;
        }

        static void set(int[] row, int at, int value) {
            if (at >= 0 && at < row.length) {
                row[at] = value;
            }
        }

        static void set(long[] row, int at, long value) {
            if (at >= 0 && at < row.length) {
                row[at] = value;
            }
        }
    }

    /**
     * The TOKENS of a TEXT, the one that is next, and what the first pass finds out of the EXPRS: of each, by its
     * first TOKEN, its form and the TOKEN behind it.
     */
    private static final class Tokens {
        static final int MOST = MOST_BYTES + 1;
        static final int MOST_DEPTH = 40;

        static final int OVER = 0;
        static final int STRANGE = 1;
        static final int NAME = 2;
        static final int NUMBER = 3;

        /** In the order of WORDS. */
        static final int BEGIN = 4;
        static final int END = 5;
        static final int OWN = 6;
        static final int INTEGER = 7;
        static final int BOOLEAN = 8;
        static final int ARRAY = 9;
        static final int PROCEDURE = 10;
        static final int VALUE = 11;
        static final int LABEL = 12;
        static final int SWITCH = 13;
        static final int GOTO = 14;
        static final int IF = 15;
        static final int THEN = 16;
        static final int ELSE = 17;
        static final int FOR = 18;
        static final int DO = 19;
        static final int STEP = 20;
        static final int UNTIL = 21;
        static final int WHILE = 22;
        static final int TRUE = 23;
        static final int FALSE = 24;
        static final int AND = 25;
        static final int OR = 26;
        static final int IMPL = 27;
        static final int EQUIV = 28;
        static final int NOT = 29;
        static final int DIV = 30;
        static final int MOD = 31;
        static final int PRINT = 32;

        /** In the order of SIGNS, then those of two bytes. */
        static final int PLUS = 33;
        static final int MINUS = 34;
        static final int TIMES = 35;
        static final int POWER = 36;
        static final int LESS = 37;
        static final int EQUAL = 38;
        static final int MORE = 39;
        static final int COMMA = 40;
        static final int SEMICOLON = 41;
        static final int COLON = 42;
        static final int OPEN = 43;
        static final int CLOSE = 44;
        static final int OPEN_INDEX = 45;
        static final int CLOSE_INDEX = 46;
        static final int AT_MOST = 47;
        static final int AT_LEAST = 48;
        static final int UNLIKE = 49;
        static final int BECOMES = 50;

        /** Forms of an EXPR; UNSEEN: where no EXPR begins (or it's not yet known). */
        static final int UNSEEN = 0;
        static final int ALONE = 1;
        static final int ONE_INDEX = 2;
        static final int INDICES = 3;
        static final int BRACKETS = 4;
        static final int CHOICE = 5;
        static final int OTHER = 6;

        private static final String WORDS =
            "begin end own integer boolean array procedure value label switch goto if then else for do step until while true false and or impl equiv not div mod print ";
        private static final String SIGNS = "+-*^<=>,;:()[]";
        private static final int MOST_SIGNS = 10;
        private static final int LETTERS = 26;
        private static final long RADIX = 37;
        private static final long MOST_NUMBER = (1L << 35) - 1;

        private final int[] kinds = new int[MOST];
        private final int[] wheres = new int[MOST];
        private final long[] values = new long[MOST];
        private final int[] forms = new int[MOST];
        private final int[] aims = new int[MOST];
        private final int[] ends = new int[MOST];
        private final long[] words = new long[PRINT + 1];
        private final long[] names = new long[MOST_BYTES];
        private int size;
        private int next;
        private int failedAt;

        Tokens() {
            int word = BEGIN;
            long packed = 0;
            for (int i = 0; i < WORDS.length(); i++) {
                if (WORDS.charAt(i) == ' ') {
                    Rows.set(words, word, packed);
                    word++;
                    packed = 0;
                } else {
                    packed = packed * RADIX + code(WORDS.charAt(i));
                }
            }
        }

        /** Letters 1 to 26, digits 27 to 36, other bytes 0. */
        private static int code(int sign) {
            if (sign >= 'a' && sign <= 'z') {
                return sign - 'a' + 1;
            }
            return isDigit(sign) ? sign - '0' + LETTERS + 1 : 0;
        }

        private static boolean isDigit(int sign) {
            return sign >= '0' && sign <= '9';
        }

        void read(int[] text, int length) {
            forget();
            for (int at = 0; at < length; at++) {
                int sign = Rows.get(text, at);
                if (sign != ' ' && sign != '\n') {
                    at = Math.max(at, token(text, length, at));
                }
            }
            add(OVER, length, 0);
            rewind();
        }

        /** Takes the NAMES of the TEXT before out of their table: cheaper than to clear it all. */
        private void forget() {
            for (int token = 0; token < size; token++) {
                if (kindOf(token) == NAME) {
                    Rows.set(names, nameOf(token), 0);
                }
            }
            size = 0;
            failedAt = -1;
        }

        int size() {
            return size;
        }

        private void add(int kind, int where, long value) {
            Rows.set(kinds, size, kind);
            Rows.set(wheres, size, where);
            Rows.set(values, size, value);
            Rows.set(forms, size, UNSEEN);
            Rows.set(aims, size, 0);
            Rows.set(ends, size, size);
            size++;
        }

        /** Answers where the token's last byte is. */
        private int token(int[] text, int length, int at) {
            int sign = Rows.get(text, at);
            if (isDigit(sign)) {
                return number(text, length, at);
            }
            if (code(sign) != 0) {
                return name(text, length, at);
            }
            int place = SIGNS.indexOf((char) sign);
            int kind = place < 0 ? STRANGE : PLUS + place;
            int longer = at + 1 < length ? longer(kind, Rows.get(text, at + 1)) : kind;
            add(longer, at, 0);
            return longer == kind ? at : at + 1;
        }

        private static int longer(int kind, int sign) {
            if (sign == '=') {
                switch (kind) {
                    case LESS:
                        return AT_MOST;
                    case MORE:
                        return AT_LEAST;
                    case COLON:
                        return BECOMES;
                    default:
                        return kind;
                }
            }
            return kind == LESS && sign == '>' ? UNLIKE : kind;
        }

        private int number(int[] text, int length, int from) {
            long value = 0;
            int at = from;
            for (; at < length && isDigit(Rows.get(text, at)); at++) {
                value = Math.min(value * 10 + Rows.get(text, at) - '0', MOST_NUMBER + 1);
            }
            add(value > MOST_NUMBER ? STRANGE : NUMBER, from, value);
            return at - 1;
        }

        private int name(int[] text, int length, int from) {
            long packed = 0;
            int at = from;
            for (; at < length && code(Rows.get(text, at)) != 0; at++) {
                if (at - from < MOST_SIGNS) {
                    packed = packed * RADIX + code(Rows.get(text, at));
                }
            }
            int word = word(packed);
            if (at - from > MOST_SIGNS) {
                add(STRANGE, from, 0);
            } else if (word != 0) {
                add(word, from, 0);
            } else {
                add(NAME, from, numberOf(packed));
            }
            return at - 1;
        }

        private int word(long packed) {
            for (int word = BEGIN; word <= PRINT; word++) {
                if (Rows.get(words, word) == packed) {
                    return word;
                }
            }
            return 0;
        }

        /** The NAME's own number, below MOST_BYTES: its place in a table that has twice the room it needs. */
        private int numberOf(long packed) {
            int place = (int) Math.floorMod(packed, (long) MOST_BYTES);
            for (int tries = 0; tries < MOST_BYTES; tries++) {
                long there = Rows.get(names, place);
                if (there == 0) {
                    Rows.set(names, place, packed);
                }
                if (there == 0 || there == packed) {
                    return place;
                }
                place = (place + 1) % MOST_BYTES;
            }
            return 0;
        }

        void rewind() {
            next = 0;
        }

        int at() {
            return next;
        }

        void goTo(int token) {
            next = token;
        }

        int kind() {
            return kindOf(next);
        }

        int kindOf(int token) {
            return token < size ? Rows.get(kinds, token) : OVER;
        }

        int where(int token) {
            return Rows.get(wheres, token);
        }

        int nameOf(int token) {
            return (int) Rows.get(values, token);
        }

        long numberAt(int token) {
            return Rows.get(values, token);
        }

        boolean take(int kind) {
            if (kind() != kind) {
                return false;
            }
            next++;
            return true;
        }

        void need(int kind) {
            if (!take(kind)) {
                fail();
            }
        }

        /** With this TOKEN it can't go on; all TOKENS from it on are over, so that whoever reads them comes back. */
        void fail() {
            if (failedAt < 0) {
                failedAt = where(next);
            }
            next = size - 1;
        }

        boolean failed() {
            return failedAt >= 0;
        }

        int failedAt() {
            return failedAt;
        }

        /** Goes over a TOKEN that those behind it are in; answers their DEPTH. A BLOCK's end is not in it. */
        int open(int depth) {
            boolean block = kind() == BEGIN;
            next++;
            if (depth >= MOST_DEPTH && !(block && kind() == END)) {
                fail();
            }
            return depth + 1;
        }

        void form(int start, int form, boolean aim) {
            Rows.set(forms, start, form);
            Rows.set(aims, start, aim ? 1 : 0);
            Rows.set(ends, start, next);
        }

        int formAt(int start) {
            return Rows.get(forms, start);
        }

        int endOf(int start) {
            return Rows.get(ends, start);
        }

        boolean isAim(int start) {
            return Rows.get(aims, start) != 0;
        }

        boolean isVariable(int start) {
            int form = formAt(start);
            return form == ALONE || form == ONE_INDEX || form == INDICES;
        }
    }

    /** What is declared, a row each; row 0 stands for what isn't known, and fits all. */
    private static final class Symbols {
        static final int MOST = MOST_BYTES / 2 + 8;

        /** SORTS. */
        static final int NOTHING = 0;
        static final int VARIABLE = 1;
        static final int ARRAY = 2;
        static final int PROCEDURE = 3;
        static final int LABEL = 4;
        static final int SWITCH = 5;

        static final int NONE = 0;
        static final int INTEGER = 1;
        static final int BOOLEAN = 2;

        /** How it comes to be there. */
        static final int DECLARED = 0;
        static final int OWN = 1;
        static final int VALUE = 2;
        static final int FORMAL = 3;

        private final int[] sorts = new int[MOST];
        private final int[] types = new int[MOST];
        private final int[] hows = new int[MOST];
        private final int[] levels = new int[MOST];
        private final int[] slots = new int[MOST];
        private final int[] sizes = new int[MOST];
        private final int[] firsts = new int[MOST];
        private final int[] tokens = new int[MOST];
        private final int[] names = new int[MOST];
        private final int[] specs = new int[MOST];
        private final int[] bodies = new int[MOST];
        private final int[] byToken = new int[Tokens.MOST];
        private int size;
        private int owns;
        private int procedures;

        void clear(int tokensRead) {
            size = 0;
            owns = 0;
            procedures = 0;
            Arrays.fill(byToken, 0, Math.min(tokensRead, Tokens.MOST), 0);
            add(0, 0, NOTHING, NONE, 0);
        }

        int add(int token, int name, int sort, int type, int level) {
            int symbol = size;
            size++;
            Rows.set(tokens, symbol, token);
            Rows.set(names, symbol, name);
            Rows.set(sorts, symbol, sort);
            Rows.set(types, symbol, type);
            Rows.set(levels, symbol, level);
            Rows.set(hows, symbol, DECLARED);
            Rows.set(slots, symbol, 0);
            Rows.set(sizes, symbol, 0);
            Rows.set(firsts, symbol, 0);
            Rows.set(specs, symbol, 0);
            Rows.set(bodies, symbol, 0);
            Rows.set(byToken, token, symbol);
            procedures += sort == PROCEDURE ? 1 : 0;
            return symbol;
        }

        int size() {
            return size;
        }

        int owns() {
            return owns;
        }

        int procedures() {
            return procedures;
        }

        int declaredAt(int token) {
            return Rows.get(byToken, token);
        }

        int token(int symbol) {
            return Rows.get(tokens, symbol);
        }

        int name(int symbol) {
            return Rows.get(names, symbol);
        }

        int sort(int symbol) {
            return Rows.get(sorts, symbol);
        }

        int type(int symbol) {
            return Rows.get(types, symbol);
        }

        int level(int symbol) {
            return Rows.get(levels, symbol);
        }

        /** Where it lies in its frame (own: in the store); of a procedure: the words of its formals. */
        int slot(int symbol) {
            return Rows.get(slots, symbol);
        }

        /** The number of an ARRAY's bounds or a procedure's formals. */
        int size(int symbol) {
            return Rows.get(sizes, symbol);
        }

        /** The TOKEN that a procedure's STATEMENT begins with. */
        int body(int symbol) {
            return Rows.get(bodies, symbol);
        }

        boolean isOwn(int symbol) {
            return Rows.get(hows, symbol) == OWN;
        }

        boolean isValue(int symbol) {
            return Rows.get(hows, symbol) == VALUE;
        }

        boolean isFormal(int symbol) {
            return Rows.get(hows, symbol) == FORMAL;
        }

        void place(int symbol, int slot) {
            Rows.set(slots, symbol, slot);
        }

        void placeOwn(int symbol) {
            Rows.set(hows, symbol, OWN);
            Rows.set(slots, symbol, owns);
            owns++;
        }

        void bound(int symbol, int bounds) {
            Rows.set(sizes, symbol, bounds);
        }

        void formals(int procedure, int first, int formals) {
            Rows.set(firsts, procedure, first);
            Rows.set(sizes, procedure, formals);
        }

        void body(int procedure, int token) {
            Rows.set(bodies, procedure, token);
        }

        void how(int symbol, int how) {
            Rows.set(hows, symbol, how);
        }

        /** One SPEC more; the last one stands. */
        void spec(int formal, int sort, int type) {
            Rows.set(sorts, formal, sort);
            Rows.set(types, formal, type);
            Rows.set(specs, formal, Rows.get(specs, formal) + 1);
        }

        int specs(int formal) {
            return Rows.get(specs, formal);
        }

        /** A procedure's formal by its number from 0; 0 if there is none. */
        int formal(int procedure, int number) {
            boolean known = sort(procedure) == PROCEDURE && number < size(procedure);
            return known ? Rows.get(firsts, procedure) + number : 0;
        }

        int formalNamed(int procedure, int name) {
            for (int i = 0; i < size(procedure); i++) {
                int formal = formal(procedure, i);
                if (name(formal) == name) {
                    return formal;
                }
            }
            return 0;
        }
    }

    /** Which NAME is what: the SCOPES, numbered as they come, alike in both passes. */
    private static final class Scopes {
        static final int MOST = MOST_BYTES / 2;

        private final int[] heads = new int[MOST_BYTES];
        private final int[] shadowed = new int[Symbols.MOST];
        private final int[] scopeOf = new int[Symbols.MOST];
        private final int[] nextOf = new int[Symbols.MOST];
        private final int[] firstOf = new int[MOST];
        private final int[] parents = new int[MOST];
        private final int[] words = new int[MOST];
        private final Symbols symbols;
        private int scopes;
        private int current;
        private int hidden;

        Scopes(Symbols symbols) {
            this.symbols = symbols;
        }

        /** All SCOPES have been left, so that no NAME has a head any more. */
        void clear() {
            Arrays.fill(firstOf, 0, Math.min(scopes + 1, MOST), 0);
            restart();
        }

        void restart() {
            scopes = 0;
            current = 0;
            hidden = 0;
        }

        /** What is declared in it is seen at once in the second pass; in the first there's nothing yet. */
        void enter() {
            scopes++;
            Rows.set(parents, scopes, current);
            current = scopes;
            int symbol = Rows.get(firstOf, current);
            for (int i = 0; symbol != 0 && i < Symbols.MOST; i++) {
                show(symbol);
                symbol = Rows.get(nextOf, symbol);
            }
        }

        private void show(int symbol) {
            int name = symbols.name(symbol);
            Rows.set(shadowed, symbol, Rows.get(heads, name));
            Rows.set(heads, name, symbol);
        }

        void leave() {
            int symbol = Rows.get(firstOf, current);
            for (int i = 0; symbol != 0 && i < Symbols.MOST; i++) {
                Rows.set(heads, symbols.name(symbol), Rows.get(shadowed, symbol));
                symbol = Rows.get(nextOf, symbol);
            }
            current = Rows.get(parents, current);
        }

        /** False if the SCOPE has the NAME: then the first stands. */
        boolean add(int symbol) {
            int before = Rows.get(heads, symbols.name(symbol));
            if (before != 0 && Rows.get(scopeOf, before) == current) {
                return false;
            }
            Rows.set(scopeOf, symbol, current);
            Rows.set(nextOf, symbol, Rows.get(firstOf, current));
            Rows.set(firstOf, current, symbol);
            show(symbol);
            return true;
        }

        int find(int name) {
            int symbol = Rows.get(heads, name);
            boolean seen = symbol == 0 || hidden == 0 || Rows.get(scopeOf, symbol) != hidden;
            return seen ? symbol : Rows.get(shadowed, symbol);
        }

        /** Bounds are worked out before their BLOCK is there. */
        void hide() {
            hidden = current;
        }

        void showAll() {
            hidden = 0;
        }

        /** The words of the frame that a BLOCK's own declarations take. */
        void words(int count) {
            Rows.set(words, current, count);
        }

        int words() {
            return Rows.get(words, current);
        }
    }

    /** The procedures round a place of the TEXT, by their level, and how far the frame of each is laid out. */
    private static final class Nest {
        private static final int MOST = 64;

        private final int[] procedures = new int[MOST];
        private final int[] slots = new int[MOST];
        private final int[] sizes = new int[MOST];
        private final int[] names = new int[MOST];
        private final int[] keeps = new int[MOST];
        private int level;

        void restart() {
            level = -1;
            enter(0);
        }

        void enter(int procedure) {
            level++;
            Rows.set(procedures, level, procedure);
            Rows.set(slots, level, Code.FIRST_SLOT);
            Rows.set(sizes, level, Code.FIRST_SLOT);
            Rows.set(names, level, 0);
            Rows.set(keeps, level, Code.ELEMENTS_SLOT);
        }

        void leave() {
            level--;
        }

        int level() {
            return level;
        }

        int procedureAt(int wanted) {
            return wanted <= level ? Rows.get(procedures, wanted) : 0;
        }

        int slot() {
            return Rows.get(slots, level);
        }

        int take(int words) {
            int first = slot();
            Rows.set(slots, level, first + words);
            Rows.set(sizes, level, Math.max(Rows.get(sizes, level), first + words));
            return first;
        }

        void giveBack(int slot) {
            Rows.set(slots, level, slot);
        }

        int size() {
            return Rows.get(sizes, level);
        }

        int oneNameMore() {
            Rows.set(names, level, Rows.get(names, level) + 1);
            return Rows.get(names, level);
        }

        /** Where the frame keeps how many ELEMENTS there are when the innermost BLOCK's ARRAYS stand. */
        int keep() {
            return Rows.get(keeps, level);
        }

        void keepAt(int slot) {
            Rows.set(keeps, level, slot);
        }
    }

    /**
     * The code: words of 36 bits, 8 for what to do, 6 for how many frames further out, 22 for a slot, an address or
     * a number. It begins with a cell for each symbol, which has the address of what the symbol names.
     */
    private static final class Code {
        static final int MOST = 4 * MOST_BYTES + Symbols.MOST;
        static final int OWN_HOPS = 63;
        static final int OPERAND_BITS = 22;
        static final int HOP_BITS = 6;
        static final int COUNT_BITS = 11;

        /** A frame: the frame around, depth, ELEMENTS and height of the stack at the call, its end, what it gives. */
        static final int LINK_SLOT = 0;
        static final int DEPTH_SLOT = 1;
        static final int ELEMENTS_SLOT = 2;
        static final int HEIGHT_SLOT = 3;
        static final int TOP_SLOT = 4;
        static final int RESULT_SLOT = 5;
        static final int FIRST_SLOT = 6;

        /** A procedure's head: the words of its formals, the words of its frame. */
        static final int HEAD = 2;

        /** What a use of a formal is to leave. */
        static final int FOR_VALUE = 0;
        static final int FOR_PLACE = 1;
        static final int FOR_AIM = 2;

        /** Two operands to one. */
        static final int ADD = 1;
        static final int SUBTRACT = 2;
        static final int MULTIPLY = 3;
        static final int DIVIDE = 4;
        static final int REMAINDER = 5;
        static final int RAISE = 6;
        static final int LESS = 7;
        static final int AT_MOST = 8;
        static final int EQUAL = 9;
        static final int AT_LEAST = 10;
        static final int MORE = 11;
        static final int UNLIKE = 12;
        static final int AND = 13;
        static final int OR = 14;
        static final int IMPLIES = 15;

        /** Operands, places, ARRAYS. */
        static final int NEGATE = 16;
        static final int NOT = 17;
        static final int LITERAL = 18;
        static final int VALUE = 19;
        static final int PLACE = 20;
        static final int PAIR = 21;
        static final int AT = 22;
        static final int THUNK = 23;
        static final int LOAD = 24;
        static final int ELEMENT = 25;
        static final int STORE = 26;
        static final int DROP = 27;
        static final int PRINT = 28;
        static final int CLEAR = 29;
        static final int MAKE = 30;
        static final int KEEP = 31;
        static final int LEVEL = 32;

        /** Where it goes on. */
        static final int JUMP = 33;
        static final int JUMP_FALSE = 34;
        static final int GOSUB = 35;
        static final int END_SUB = 36;
        static final int LINK = 37;
        static final int BACK = 38;
        static final int FOR_TEST = 39;
        static final int STEP = 40;
        static final int MARK = 41;
        static final int CALL = 42;
        static final int RETURN = 43;
        static final int USE = 44;
        static final int USE_SAME = 45;
        static final int END_USE = 46;
        static final int END_PLACE = 47;
        static final int NO_PLACE = 48;
        static final int SWITCH = 49;
        static final int GOTO = 50;
        static final int HALT = 51;

        private final long[] words = new long[MOST];
        private int size;

        void restart(int cells) {
            size = cells;
        }

        int size() {
            return Math.min(size, MOST);
        }

        long[] words() {
            return words;
        }

        int here() {
            return size;
        }

        /** Answers the word's address. */
        int word(long value) {
            Rows.set(words, size, value);
            size++;
            return size - 1;
        }

        int put(int what, int hops, int operand) {
            return word((long) what << HOP_BITS + OPERAND_BITS | (long) hops << OPERAND_BITS | operand);
        }

        int put(int what, int operand) {
            return put(what, 0, operand);
        }

        int put(int what) {
            return put(what, 0, 0);
        }

        void set(int address, long value) {
            Rows.set(words, address, value);
        }

        void setCell(int symbol) {
            set(symbol, size);
        }

        static int operand(long word) {
            return (int) (word & (1L << OPERAND_BITS) - 1);
        }

        static int hops(long word) {
            return (int) (word >> OPERAND_BITS & (1L << HOP_BITS) - 1);
        }

        static int what(long word) {
            return (int) (word >> HOP_BITS + OPERAND_BITS);
        }

        /** Lets the jump at the address go to here; answers where it went before. */
        int patch(int address) {
            long word = Rows.get(words, address);
            set(address, word - operand(word) + size);
            return operand(word);
        }

        /** Lets a chain of jumps, each with the address of the one before, go to here. */
        void patchAll(int last) {
            int address = last;
            for (int i = 0; address != 0 && i < MOST; i++) {
                address = patch(address);
            }
        }
    }

    /** Signs that wait for their operands, and the operands (TYPE and first TOKEN), of all EXPRS that are open. */
    private static final class Work {
        static final int EQUIV = 1;
        static final int IMPL = 2;
        static final int OR = 3;
        static final int AND = 4;
        static final int NOT = 5;
        static final int RELATION = 6;
        static final int SUM = 7;
        static final int PRODUCT = 8;
        static final int POWER = 9;

        private static final int MOST = 512;

        private final int[] signs = new int[MOST];
        private final int[] signTokens = new int[MOST];
        private final int[] types = new int[MOST];
        private final int[] starts = new int[MOST];
        private int waiting;
        private int operands;

        void clear() {
            waiting = 0;
            operands = 0;
        }

        /** How fast a sign binds; 0 if it's none. A + or - before a term is kept as its number below 0. */
        static int strength(int sign) {
            switch (Math.abs(sign)) {
                case Tokens.EQUIV:
                    return EQUIV;
                case Tokens.IMPL:
                    return IMPL;
                case Tokens.OR:
                    return OR;
                case Tokens.AND:
                    return AND;
                case Tokens.NOT:
                    return NOT;
                case Tokens.LESS:
                case Tokens.AT_MOST:
                case Tokens.EQUAL:
                case Tokens.AT_LEAST:
                case Tokens.MORE:
                case Tokens.UNLIKE:
                    return RELATION;
                case Tokens.PLUS:
                case Tokens.MINUS:
                    return SUM;
                case Tokens.TIMES:
                case Tokens.DIV:
                case Tokens.MOD:
                    return PRODUCT;
                case Tokens.POWER:
                    return POWER;
                default:
                    return 0;
            }
        }

        int waiting() {
            return waiting;
        }

        void hold(int sign, int token) {
            Rows.set(signs, waiting, sign);
            Rows.set(signTokens, waiting, token);
            waiting++;
        }

        int sign() {
            return Rows.get(signs, waiting - 1);
        }

        int signToken() {
            return Rows.get(signTokens, waiting - 1);
        }

        void dropSign() {
            waiting--;
        }

        int strongest(int base) {
            return waiting > base ? strength(sign()) : 0;
        }

        int nots(int base) {
            int nots = 0;
            for (int i = base; i < waiting; i++) {
                nots += Rows.get(signs, i) == Tokens.NOT ? 1 : 0;
            }
            return nots;
        }

        void push(int type, int start) {
            Rows.set(types, operands, type);
            Rows.set(starts, operands, start);
            operands++;
        }

        int pop() {
            operands = Math.max(operands - 1, 0);
            return Rows.get(types, operands);
        }

        /** Of the operands the last (0), or the one before (1). */
        int type(int back) {
            return Rows.get(types, operands - 1 - back);
        }

        int start(int back) {
            return Rows.get(starts, operands - 1 - back);
        }
    }

    /** What all who make the code share. The TEXT is gone through twice; names are known only the second time. */
    private static final class Desk {
        static final int UNDECLARED = 2;
        static final int DECLARATION = 3;
        static final int SORT = 4;
        static final int NUMBER = 5;

        final Tokens tokens = new Tokens();
        final Symbols symbols = new Symbols();
        final Scopes scopes = new Scopes(symbols);
        final Nest nest = new Nest();
        final Code code = new Code();
        boolean making;
        int fault;
        int faultWhere;

        void clear() {
            fault = 0;
            faultWhere = -1;
            symbols.clear(tokens.size());
            scopes.clear();
        }

        void restart(boolean second) {
            making = second;
            tokens.rewind();
            scopes.restart();
            nest.restart();
            code.restart(symbols.size());
        }

        /** Of all faults the one with the least WHERE, and there with the least number, stays. */
        void note(int token, int number) {
            int where = tokens.where(token);
            if (fault == 0 || where < faultWhere || where == faultWhere && number < fault) {
                fault = number;
                faultWhere = where;
            }
        }

        void wrong(int token, int number) {
            if (making) {
                note(token, number);
            }
        }

        int find(int token) {
            if (!making) {
                return 0;
            }
            int symbol = scopes.find(tokens.nameOf(token));
            if (symbol == 0) {
                note(token, UNDECLARED);
            }
            return symbol;
        }

        /** No SORT is wrong for what isn't known. */
        boolean isSort(int symbol, int sort) {
            return symbols.sort(symbol) == sort || symbols.sort(symbol) == Symbols.NOTHING;
        }

        void check(int wanted, int type, int token) {
            if (wanted != Symbols.NONE && type != Symbols.NONE && wanted != type) {
                wrong(token, SORT);
            }
        }

        int hops(int symbol) {
            return symbols.isOwn(symbol) ? Code.OWN_HOPS : nest.level() - symbols.level(symbol);
        }

        /** Leaves what an ARRAY, procedure, switch or LABEL is: of a formal what its ACTUAL was. */
        void putSymbol(int symbol) {
            if (symbols.sort(symbol) == Symbols.ARRAY) {
                code.put(symbols.isFormal(symbol) ? Code.VALUE : Code.PLACE, hops(symbol), symbols.slot(symbol));
            } else if (symbols.isFormal(symbol)) {
                code.put(Code.PAIR, hops(symbol), symbols.slot(symbol));
            } else {
                code.put(Code.AT, hops(symbol), symbol);
            }
        }
    }

    /** EXPRS, ACTUALS and AIMS. */
    private static final class Expressions {
        private static final int MOST_INDICES = 3;

        private final Desk desk;
        private final Tokens tokens;
        private final Symbols symbols;
        private final Code code;
        private final Work work = new Work();

        Expressions(Desk desk) {
            this.desk = desk;
            tokens = desk.tokens;
            symbols = desk.symbols;
            code = desk.code;
        }

        void clear() {
            work.clear();
        }

        void typed(int depth, int type) {
            int start = tokens.at();
            desk.check(type, expression(depth), start);
        }

        /** 'if' EXPR 'then'; answers the jump to what's for false. */
        int test(int depth) {
            int in = tokens.open(depth);
            typed(in, Symbols.BOOLEAN);
            tokens.need(Tokens.THEN);
            return code.put(Code.JUMP_FALSE);
        }

        /** 'else' of an EXPR or AIM; answers the jump to behind it. */
        private int otherwise(int toElse) {
            tokens.need(Tokens.ELSE);
            int toEnd = code.put(Code.JUMP);
            code.patch(toElse);
            return toEnd;
        }

        /** An EXPR; answers its TYPE. */
        int expression(int depth) {
            int start = tokens.at();
            if (tokens.kind() != Tokens.IF) {
                return simple(depth);
            }
            int toElse = test(depth);
            int then = tokens.at();
            int type = simple(depth + 1);
            int toEnd = otherwise(toElse);
            int other = tokens.at();
            int otherType = expression(depth + 1);
            code.patch(toEnd);
            tokens.form(start, Tokens.CHOICE, tokens.isAim(then) && tokens.isAim(other));
            desk.check(type, otherType, other);
            if (type == Symbols.NONE || type == otherType) {
                return otherType;
            }
            return otherType == Symbols.NONE ? type : Symbols.NONE;
        }

        private int simple(int depth) {
            int start = tokens.at();
            int base = work.waiting();
            int form = Tokens.OTHER;
            boolean more = true;
            for (int round = 0; more && round < Tokens.MOST; round++) {
                int in = before(base, depth + work.nots(base));
                boolean first = tokens.at() == start;
                int found = tokens.kind() == Tokens.NAME ? named(in) : unnamed(in);
                form = first ? found : Tokens.OTHER;
                more = between(base);
            }
            boolean aim = form == Tokens.ALONE || form == Tokens.ONE_INDEX
                || form == Tokens.BRACKETS && tokens.isAim(start + 1);
            tokens.form(start, form, aim);
            return work.pop();
        }

        /** The nots and the sign before an operand; answers its DEPTH. */
        private int before(int base, int depth) {
            int in = depth;
            for (int i = 0; i <= Tokens.MOST_DEPTH && tokens.kind() == Tokens.NOT; i++) {
                if (work.strongest(base) > Work.NOT) {
                    return in;
                }
                work.hold(Tokens.NOT, tokens.at());
                in = tokens.open(in);
            }
            boolean sign = tokens.kind() == Tokens.PLUS || tokens.kind() == Tokens.MINUS;
            if (sign && work.strongest(base) <= Work.RELATION) {
                work.hold(-tokens.kind(), tokens.at());
                tokens.take(tokens.kind());
            }
            return in;
        }

        /** Works out what binds faster than the next sign, and takes that; false: it's none that can stand here. */
        private boolean between(int base) {
            int sign = tokens.kind();
            int strength = sign == Tokens.NOT ? 0 : Work.strength(sign);
            int least = strength == Work.RELATION ? Work.SUM : strength;
            reduce(base, least);
            if (strength == 0 || strength == work.strongest(base)) {
                reduce(base, 0);
                return false;
            }
            work.hold(sign, tokens.at());
            tokens.take(sign);
            return true;
        }

        private void reduce(int base, int least) {
            for (int i = 0; i < Work.MOST && work.waiting() > base && work.strongest(base) >= least; i++) {
                int sign = work.sign();
                int token = work.signToken();
                work.dropSign();
                if (sign == Tokens.NOT || sign < 0) {
                    reduceOne(sign, token);
                } else {
                    reduceTwo(sign);
                }
            }
        }

        private void reduceOne(int sign, int token) {
            int type = sign == Tokens.NOT ? Symbols.BOOLEAN : Symbols.INTEGER;
            desk.check(type, work.type(0), work.start(0));
            if (sign == Tokens.NOT) {
                code.put(Code.NOT);
            } else if (sign == -Tokens.MINUS) {
                code.put(Code.NEGATE);
            }
            work.pop();
            work.push(type, token);
        }

        private void reduceTwo(int sign) {
            int strength = Work.strength(sign);
            if (sign == Tokens.EQUAL || sign == Tokens.UNLIKE) {
                desk.check(work.type(1), work.type(0), work.start(0));
            } else {
                int wanted = strength < Work.NOT ? Symbols.BOOLEAN : Symbols.INTEGER;
                desk.check(wanted, work.type(1), work.start(1));
                desk.check(wanted, work.type(0), work.start(0));
            }
            code.put(operation(sign));
            int start = work.start(1);
            work.pop();
            work.pop();
            work.push(strength > Work.RELATION ? Symbols.INTEGER : Symbols.BOOLEAN, start);
        }

        private static int operation(int sign) {
            switch (sign) {
                case Tokens.PLUS:
                    return Code.ADD;
                case Tokens.MINUS:
                    return Code.SUBTRACT;
                case Tokens.TIMES:
                    return Code.MULTIPLY;
                case Tokens.DIV:
                    return Code.DIVIDE;
                case Tokens.MOD:
                    return Code.REMAINDER;
                case Tokens.POWER:
                    return Code.RAISE;
                case Tokens.LESS:
                    return Code.LESS;
                case Tokens.AT_MOST:
                    return Code.AT_MOST;
                case Tokens.AT_LEAST:
                    return Code.AT_LEAST;
                case Tokens.MORE:
                    return Code.MORE;
                case Tokens.UNLIKE:
                    return Code.UNLIKE;
                case Tokens.AND:
                    return Code.AND;
                case Tokens.OR:
                    return Code.OR;
                case Tokens.IMPL:
                    return Code.IMPLIES;
                default:
                    return Code.EQUAL;
            }
        }

        /** A PRIMARY without a NAME before; answers its form. */
        private int unnamed(int depth) {
            int token = tokens.at();
            int kind = tokens.kind();
            if (kind == Tokens.OPEN) {
                int in = tokens.open(depth);
                int type = expression(in);
                tokens.need(Tokens.CLOSE);
                work.push(type, token);
                return Tokens.BRACKETS;
            }
            if (kind == Tokens.NUMBER || kind == Tokens.TRUE || kind == Tokens.FALSE) {
                long truth = kind == Tokens.TRUE ? 1 : 0;
                code.put(Code.LITERAL);
                code.word(kind == Tokens.NUMBER ? tokens.numberAt(token) : truth);
                tokens.take(kind);
                work.push(kind == Tokens.NUMBER ? Symbols.INTEGER : Symbols.BOOLEAN, token);
            } else {
                tokens.fail();
                work.push(Symbols.NONE, token);
            }
            return Tokens.OTHER;
        }

        /** A PRIMARY with a NAME before; answers its form. */
        private int named(int depth) {
            int token = tokens.at();
            int symbol = desk.find(token);
            tokens.take(Tokens.NAME);
            if (tokens.kind() == Tokens.OPEN_INDEX) {
                int indices = element(depth, symbol, token);
                code.put(Code.LOAD);
                work.push(typeIf(symbol, Symbols.ARRAY), token);
                return indices == 1 ? Tokens.ONE_INDEX : Tokens.INDICES;
            }
            boolean call = tokens.kind() == Tokens.OPEN;
            if (call || symbols.sort(symbol) == Symbols.PROCEDURE) {
                boolean gives = symbols.sort(symbol) == Symbols.PROCEDURE && symbols.type(symbol) != Symbols.NONE;
                if (!gives && symbols.sort(symbol) != Symbols.NOTHING) {
                    desk.wrong(token, Desk.SORT);
                }
                call(depth, symbol, token);
                work.push(typeIf(symbol, Symbols.PROCEDURE), token);
            } else {
                variable(symbol, token);
                work.push(typeIf(symbol, Symbols.VARIABLE), token);
            }
            return call ? Tokens.OTHER : Tokens.ALONE;
        }

        /** What's of another SORT, a fault, has no TYPE. */
        private int typeIf(int symbol, int sort) {
            return symbols.sort(symbol) == sort ? symbols.type(symbol) : Symbols.NONE;
        }

        private void variable(int symbol, int token) {
            if (!desk.isSort(symbol, Symbols.VARIABLE)) {
                desk.wrong(token, Desk.SORT);
            }
            if (symbols.isFormal(symbol)) {
                use(symbol, Code.FOR_VALUE);
            } else {
                code.put(Code.VALUE, desk.hops(symbol), symbols.slot(symbol));
            }
        }

        private void use(int symbol, int mode) {
            code.put(Code.PAIR, desk.hops(symbol), symbols.slot(symbol));
            code.put(Code.USE, mode);
        }

        /** '[' indices ']' of an ARRAY, which leave an ELEMENT's place; answers how many. */
        private int element(int depth, int symbol, int token) {
            if (!desk.isSort(symbol, Symbols.ARRAY)) {
                desk.wrong(token, Desk.SORT);
            }
            desk.putSymbol(symbol);
            int in = tokens.open(depth);
            int indices = 0;
            for (; indices < Tokens.MOST && (indices == 0 || tokens.take(Tokens.COMMA)); indices++) {
                typed(in, Symbols.INTEGER);
            }
            tokens.need(Tokens.CLOSE_INDEX);
            if (symbols.sort(symbol) == Symbols.ARRAY) {
                boolean fits = symbols.isFormal(symbol) ? indices <= MOST_INDICES : indices == symbols.size(symbol);
                if (!fits) {
                    desk.wrong(token, Desk.NUMBER);
                }
            }
            code.put(Code.ELEMENT, indices);
            return indices;
        }

        /** A VARIABLE that is to be set: leaves its place, answers its TYPE. */
        int place(int depth, boolean resultToo) {
            int token = tokens.at();
            int symbol = desk.find(token);
            tokens.need(Tokens.NAME);
            if (tokens.kind() == Tokens.OPEN_INDEX) {
                element(depth, symbol, token);
                return typeIf(symbol, Symbols.ARRAY);
            }
            if (symbols.sort(symbol) == Symbols.PROCEDURE) {
                return result(symbol, token, resultToo);
            }
            if (!desk.isSort(symbol, Symbols.VARIABLE)) {
                desk.wrong(token, Desk.SORT);
            }
            if (symbols.isFormal(symbol)) {
                use(symbol, Code.FOR_PLACE);
            } else {
                code.put(Code.PLACE, desk.hops(symbol), symbols.slot(symbol));
            }
            return typeIf(symbol, Symbols.VARIABLE);
        }

        private int result(int procedure, int token, boolean allowed) {
            int level = symbols.level(procedure) + 1;
            boolean inIt = !symbols.isFormal(procedure) && desk.nest.procedureAt(level) == procedure;
            if (!allowed || !inIt || symbols.type(procedure) == Symbols.NONE) {
                desk.wrong(token, Desk.SORT);
                return Symbols.NONE;
            }
            code.put(Code.PLACE, desk.nest.level() - level, Code.RESULT_SLOT);
            return symbols.type(procedure);
        }

        /** A call, whose NAME is behind; leaves what it gives. */
        void call(int depth, int procedure, int token) {
            code.put(Code.MARK);
            int given = 0;
            if (tokens.kind() == Tokens.OPEN) {
                int in = tokens.open(depth);
                for (; given < Tokens.MOST && (given == 0 || tokens.take(Tokens.COMMA)); given++) {
                    int formal = symbols.formal(procedure, given);
                    if (symbols.sort(formal) == Symbols.VARIABLE && symbols.isFormal(formal)) {
                        thunk(in, formal);
                    } else {
                        actual(in, formal);
                    }
                }
                tokens.need(Tokens.CLOSE);
            }
            if (symbols.sort(procedure) == Symbols.PROCEDURE && given != symbols.size(procedure)) {
                desk.wrong(token, Desk.NUMBER);
            }
            desk.putSymbol(procedure);
            code.put(Code.CALL);
        }

        /** An ACTUAL for a value, and for all that isn't worked out as an EXPR. */
        private void actual(int depth, int formal) {
            int start = tokens.at();
            switch (symbols.sort(formal)) {
                case Symbols.VARIABLE:
                    desk.check(symbols.type(formal), expression(depth), start);
                    break;
                case Symbols.LABEL:
                    int over = code.put(Code.JUMP);
                    aim(depth, true);
                    code.put(Code.END_USE);
                    endThunk(over);
                    break;
                case Symbols.NOTHING:
                    if (tokens.isAim(start)) {
                        aim(depth, false);
                    } else {
                        expression(depth);
                    }
                    break;
                default:
                    alone(formal);
                    break;
            }
        }

        private void endThunk(int over) {
            code.patch(over);
            code.put(Code.THUNK, over + 1);
        }

        /** An ACTUAL that is an EXPR worked out each time it's used. */
        private void thunk(int depth, int formal) {
            int start = tokens.at();
            int over = code.put(Code.JUMP);
            int symbol = tokens.isVariable(start) ? desk.find(start) : 0;
            boolean alone = tokens.formAt(start) == Tokens.ALONE;
            int type;
            if (alone && symbols.sort(symbol) == Symbols.VARIABLE && symbols.isFormal(symbol)) {
                code.put(Code.PAIR, desk.hops(symbol), symbols.slot(symbol));
                code.put(Code.USE_SAME);
                code.put(Code.END_USE);
                tokens.take(Tokens.NAME);
                type = symbols.type(symbol);
            } else if (symbols.sort(symbol) == (alone ? Symbols.VARIABLE : Symbols.ARRAY)) {
                type = place(depth, false);
                code.put(Code.END_PLACE);
            } else {
                code.put(Code.NO_PLACE);
                type = expression(depth);
                code.put(Code.END_USE);
            }
            endThunk(over);
            desk.check(symbols.type(formal), type, start);
        }

        /** An ACTUAL for an ARRAY, procedure or switch. */
        private void alone(int formal) {
            int token = tokens.at();
            if (tokens.formAt(token) != Tokens.ALONE) {
                misfit(token);
                return;
            }
            int symbol = desk.find(token);
            tokens.take(Tokens.NAME);
            if (symbols.sort(symbol) == Symbols.NOTHING) {
                return;
            }
            boolean sameSort = symbols.sort(symbol) == symbols.sort(formal);
            if (!sameSort || symbols.type(symbol) != symbols.type(formal)) {
                desk.wrong(token, Desk.SORT);
            } else if (symbols.sort(symbol) == Symbols.PROCEDURE && symbols.size(symbol) != 0) {
                desk.wrong(token, Desk.NUMBER);
            }
            desk.putSymbol(symbol);
        }

        /** Goes over an EXPR that is of another SORT than it must be. */
        private void misfit(int start) {
            desk.wrong(start, Desk.SORT);
            if (tokens.kindOf(start) == Tokens.NAME) {
                desk.find(start);
            }
            tokens.goTo(tokens.endOf(start));
        }

        /** An AIM; of an ACTUAL for a formal without SPEC (not strict) only what's in it counts, not its SORT. */
        void aim(int depth, boolean strict) {
            int start = tokens.at();
            int form = tokens.formAt(start);
            int kind = tokens.kind();
            if (kind == Tokens.IF) {
                int toElse = test(depth);
                aim(depth + 1, strict);
                int toEnd = otherwise(toElse);
                aim(depth + 1, strict);
                code.patch(toEnd);
            } else if (kind == Tokens.OPEN && form != Tokens.OTHER) {
                int in = tokens.open(depth);
                aim(in, strict);
                tokens.need(Tokens.CLOSE);
            } else if (kind == Tokens.NAME && form != Tokens.OTHER && form != Tokens.INDICES) {
                designated(depth, strict);
            } else if (form == Tokens.UNSEEN) {
                tokens.fail();
            } else {
                misfit(start);
            }
        }

        private void designated(int depth, boolean strict) {
            int token = tokens.at();
            int symbol = desk.find(token);
            tokens.take(Tokens.NAME);
            boolean indexed = tokens.kind() == Tokens.OPEN_INDEX;
            if (indexed) {
                int in = tokens.open(depth);
                typed(in, Symbols.INTEGER);
                tokens.need(Tokens.CLOSE_INDEX);
            }
            if (strict && !desk.isSort(symbol, indexed ? Symbols.SWITCH : Symbols.LABEL)) {
                desk.wrong(token, Desk.SORT);
            }
            desk.putSymbol(symbol);
            if (indexed) {
                code.put(Code.SWITCH);
            } else if (symbols.isFormal(symbol)) {
                code.put(Code.USE, Code.FOR_AIM);
            }
        }
    }

    /** Makes a TEXT to code: BLOCKS, DECLS and STATEMENTS. */
    private static final class Maker {
        private static final int MOST_BOUNDS = 3;
        private static final int MOST_FORMALS = 8;
        private static final int MOST_TARGETS = 20;
        private static final int MOST_NAMES = 200;

        private final Desk desk = new Desk();
        private final Tokens tokens = desk.tokens;
        private final Symbols symbols = desk.symbols;
        private final Scopes scopes = desk.scopes;
        private final Nest nest = desk.nest;
        private final Code code = desk.code;
        private final Expressions expressions = new Expressions(desk);

        boolean make(int[] text, int length) {
            tokens.read(text, length);
            desk.clear();
            pass(false);
            if (tokens.failed()) {
                desk.fault = SYNTAX;
                desk.faultWhere = tokens.failedAt();
            } else {
                pass(true);
            }
            return desk.fault == 0;
        }

        int fault() {
            return desk.fault;
        }

        int faultWhere() {
            return desk.faultWhere;
        }

        int procedures() {
            return symbols.procedures();
        }

        int owns() {
            return symbols.owns();
        }

        Code code() {
            return code;
        }

        private void pass(boolean second) {
            desk.restart(second);
            expressions.clear();
            int head = head(0);
            if (tokens.kind() == Tokens.BEGIN) {
                block(0);
            } else {
                tokens.fail();
            }
            if (tokens.kind() != Tokens.OVER) {
                tokens.fail();
            }
            code.put(Code.HALT);
            code.set(head + 1, nest.size());
        }

        /** The head of the PROGRAM (symbol 0) or a procedure; the words of its frame are known behind it. */
        private int head(int symbol) {
            code.setCell(symbol);
            code.word(symbols.slot(symbol));
            return code.word(0) - 1;
        }

        private void block(int depth) {
            int in = tokens.open(depth);
            int slot = nest.slot();
            int keep = nest.keep();
            scopes.enter();
            int words = desk.making ? scopes.words() : 1;
            nest.keepAt(nest.take(words));
            if (words > 1) {
                code.put(Code.CLEAR, slot << Code.COUNT_BITS | words);
            }
            declarations(in);
            code.put(Code.KEEP, slot);
            if (!desk.making) {
                scopes.words(nest.slot() - slot);
            }
            for (int i = 0; i < Tokens.MOST && (i == 0 || tokens.take(Tokens.SEMICOLON)); i++) {
                statement(in);
            }
            tokens.need(Tokens.END);
            scopes.leave();
            nest.giveBack(slot);
            nest.keepAt(keep);
            code.put(Code.LEVEL, keep);
        }

        private void declarations(int depth) {
            for (int i = 0; i < Tokens.MOST && isDeclaration(); i++) {
                declaration(depth);
                tokens.need(Tokens.SEMICOLON);
            }
        }

        private boolean isDeclaration() {
            switch (tokens.kind()) {
                case Tokens.OWN:
                case Tokens.INTEGER:
                case Tokens.BOOLEAN:
                case Tokens.ARRAY:
                case Tokens.PROCEDURE:
                case Tokens.SWITCH:
                    return true;
                default:
                    return false;
            }
        }

        private void declaration(int depth) {
            boolean own = tokens.take(Tokens.OWN);
            int type = type();
            if (own && type == Symbols.NONE) {
                tokens.fail();
            } else if (own || tokens.kind() == Tokens.NAME) {
                variables(type, own);
            } else if (tokens.kind() == Tokens.PROCEDURE) {
                procedure(depth, type);
            } else if (tokens.kind() == Tokens.SWITCH && type == Symbols.NONE) {
                aims(depth);
            } else {
                arrays(depth, type == Symbols.NONE ? Symbols.INTEGER : type);
            }
        }

        private int type() {
            if (tokens.take(Tokens.INTEGER)) {
                return Symbols.INTEGER;
            }
            return tokens.take(Tokens.BOOLEAN) ? Symbols.BOOLEAN : Symbols.NONE;
        }

        /** The NAME that is next, declared; answers its symbol. */
        private int declared(int sort, int type) {
            int token = tokens.at();
            tokens.need(Tokens.NAME);
            if (desk.making || tokens.failed()) {
                return symbols.declaredAt(token);
            }
            int symbol = symbols.add(token, tokens.nameOf(token), sort, type, nest.level());
            if (!scopes.add(symbol)) {
                desk.note(token, Desk.DECLARATION);
            }
            if (sort != Symbols.LABEL && nest.oneNameMore() == MOST_NAMES + 1) {
                desk.note(token, Desk.NUMBER);
            }
            return symbol;
        }

        private void variables(int type, boolean own) {
            for (int i = 0; i < Tokens.MOST && (i == 0 || tokens.take(Tokens.COMMA)); i++) {
                int symbol = declared(Symbols.VARIABLE, type);
                if (desk.making) {
                    continue;
                }
                if (own) {
                    symbols.placeOwn(symbol);
                } else {
                    symbols.place(symbol, nest.take(1));
                }
            }
        }

        private void arrays(int depth, int type) {
            tokens.need(Tokens.ARRAY);
            int first = tokens.at();
            int names = 0;
            for (; names < Tokens.MOST && (names == 0 || tokens.take(Tokens.COMMA)); names++) {
                declared(Symbols.ARRAY, type);
            }
            int bounds = bounds(depth);
            for (int i = 0; i < names; i++) {
                int symbol = symbols.declaredAt(first + 2 * i);
                if (!desk.making) {
                    symbols.bound(symbol, bounds);
                    symbols.place(symbol, nest.take(2 + 2 * bounds));
                }
                code.put(Code.MAKE, bounds, symbols.slot(symbol));
            }
            code.put(Code.DROP, 2 * bounds);
        }

        private int bounds(int depth) {
            if (tokens.kind() != Tokens.OPEN_INDEX) {
                tokens.fail();
                return 0;
            }
            int in = tokens.open(depth);
            int bounds = 0;
            scopes.hide();
            for (; bounds < MOST_BOUNDS && (bounds == 0 || tokens.take(Tokens.COMMA)); bounds++) {
                expressions.typed(in, Symbols.INTEGER);
                tokens.need(Tokens.COLON);
                expressions.typed(in, Symbols.INTEGER);
            }
            scopes.showAll();
            tokens.need(Tokens.CLOSE_INDEX);
            return bounds;
        }

        /** A switch: how many AIMS, then each with the address of the next before it. */
        private void aims(int depth) {
            tokens.need(Tokens.SWITCH);
            int symbol = declared(Symbols.SWITCH, Symbols.NONE);
            tokens.need(Tokens.BECOMES);
            int over = code.put(Code.JUMP);
            code.setCell(symbol);
            int head = code.word(0);
            int aims = 0;
            for (; aims < Tokens.MOST && (aims == 0 || tokens.take(Tokens.COMMA)); aims++) {
                int next = code.word(0);
                expressions.aim(depth, true);
                code.put(Code.END_USE);
                code.set(next, code.here());
            }
            code.set(head, aims);
            code.patch(over);
        }

        private void procedure(int depth, int type) {
            int in = tokens.open(depth);
            int symbol = declared(Symbols.PROCEDURE, type);
            int over = code.put(Code.JUMP);
            nest.enter(symbol);
            scopes.enter();
            if (desk.making) {
                tokens.goTo(symbols.body(symbol));
                nest.take(symbols.slot(symbol));
            } else {
                heading(in, symbol);
            }
            int head = head(symbol);
            scoped(in);
            code.put(Code.RETURN);
            code.set(head + 1, nest.size());
            code.patch(over);
            scopes.leave();
            nest.leave();
        }

        private void heading(int depth, int procedure) {
            int first = symbols.size();
            int formals = 0;
            if (tokens.kind() == Tokens.OPEN) {
                tokens.open(depth);
                formals = formals();
                tokens.need(Tokens.CLOSE);
            }
            tokens.need(Tokens.SEMICOLON);
            symbols.formals(procedure, first, formals);
            int values = tokens.at();
            int valued = 0;
            if (tokens.take(Tokens.VALUE)) {
                valued = values(procedure);
                tokens.need(Tokens.SEMICOLON);
            }
            for (int i = 0; i < Tokens.MOST && isSpec(); i++) {
                spec(procedure);
                tokens.need(Tokens.SEMICOLON);
            }
            for (int i = 0; i < valued; i++) {
                checkValue(procedure, values + 1 + 2 * i);
            }
            settle(procedure);
            symbols.body(procedure, tokens.at());
        }

        private int formals() {
            int formals = 0;
            for (; formals < Tokens.MOST && (formals == 0 || tokens.take(Tokens.COMMA)); formals++) {
                int symbol = declared(Symbols.NOTHING, Symbols.NONE);
                symbols.how(symbol, Symbols.FORMAL);
                if (formals == MOST_FORMALS) {
                    desk.note(symbols.token(symbol), Desk.NUMBER);
                }
            }
            return formals;
        }

        private int values(int procedure) {
            int names = 0;
            for (; names < Tokens.MOST && (names == 0 || tokens.take(Tokens.COMMA)); names++) {
                int formal = formal(procedure);
                if (formal != 0) {
                    symbols.how(formal, Symbols.VALUE);
                }
            }
            return names;
        }

        /** The NAME that is next, which must be a formal's; 0 if it is none. */
        private int formal(int procedure) {
            int token = tokens.at();
            tokens.need(Tokens.NAME);
            int formal = tokens.failed() ? 0 : symbols.formalNamed(procedure, tokens.nameOf(token));
            if (formal == 0) {
                desk.note(token, Desk.DECLARATION);
            }
            return formal;
        }

        private boolean isSpec() {
            int kind = tokens.kind();
            return kind == Tokens.LABEL || isDeclaration() && kind != Tokens.OWN;
        }

        private void spec(int procedure) {
            int type = type();
            int sort = type == Symbols.NONE ? Symbols.NOTHING : Symbols.VARIABLE;
            if (tokens.take(Tokens.ARRAY)) {
                sort = Symbols.ARRAY;
                type = type == Symbols.NONE ? Symbols.INTEGER : type;
            } else if (tokens.take(Tokens.PROCEDURE)) {
                sort = Symbols.PROCEDURE;
            } else if (type == Symbols.NONE) {
                sort = tokens.kind() == Tokens.LABEL ? Symbols.LABEL : Symbols.SWITCH;
                tokens.take(tokens.kind());
            }
            for (int i = 0; i < Tokens.MOST && (i == 0 || tokens.take(Tokens.COMMA)); i++) {
                int formal = formal(procedure);
                if (formal != 0) {
                    symbols.spec(formal, sort, type);
                }
            }
        }

        /** Only what has a TYPE, and is no ARRAY or procedure, can be a value. */
        private void checkValue(int procedure, int token) {
            int formal = symbols.formalNamed(procedure, tokens.nameOf(token));
            if (formal != 0 && symbols.sort(formal) != Symbols.VARIABLE) {
                desk.note(token, Desk.DECLARATION);
                symbols.how(formal, Symbols.FORMAL);
            }
        }

        /** Gives the formals their slots; a procedure's own is the words that they take. */
        private void settle(int procedure) {
            int from = nest.slot();
            for (int i = 0; i < symbols.size(procedure); i++) {
                int formal = symbols.formal(procedure, i);
                if (symbols.specs(formal) != 1) {
                    desk.note(symbols.token(formal), Desk.DECLARATION);
                }
                boolean one = symbols.isValue(formal) || symbols.sort(formal) == Symbols.ARRAY;
                symbols.place(formal, nest.take(one ? 1 : 2));
            }
            symbols.place(procedure, nest.slot() - from);
        }

        /** A STATEMENT that is a SCOPE for its own LABELS. */
        private void scoped(int depth) {
            scopes.enter();
            statement(depth);
            scopes.leave();
        }

        private void statement(int depth) {
            for (int i = 0; i < Tokens.MOST && isLabel(); i++) {
                code.setCell(declared(Symbols.LABEL, Symbols.NONE));
                tokens.need(Tokens.COLON);
                code.put(Code.LEVEL, nest.keep());
            }
            switch (tokens.kind()) {
                case Tokens.NAME:
                    code.put(Code.STEP);
                    named(depth);
                    break;
                case Tokens.PRINT:
                    code.put(Code.STEP);
                    print(depth);
                    break;
                case Tokens.GOTO:
                    code.put(Code.STEP);
                    tokens.need(Tokens.GOTO);
                    expressions.aim(depth, true);
                    code.put(Code.GOTO);
                    break;
                case Tokens.IF:
                    code.put(Code.STEP);
                    choice(depth);
                    break;
                case Tokens.FOR:
                    code.put(Code.STEP);
                    loop(depth);
                    break;
                case Tokens.BEGIN:
                    code.put(Code.STEP);
                    block(depth);
                    break;
                default:
                    break;
            }
        }

        private boolean isLabel() {
            return tokens.kind() == Tokens.NAME && tokens.kindOf(tokens.at() + 1) == Tokens.COLON;
        }

        private void named(int depth) {
            int behind = tokens.kindOf(tokens.at() + 1);
            if (behind == Tokens.BECOMES || behind == Tokens.OPEN_INDEX) {
                assignment(depth);
                return;
            }
            int token = tokens.at();
            int symbol = desk.find(token);
            tokens.need(Tokens.NAME);
            if (!desk.isSort(symbol, Symbols.PROCEDURE)) {
                desk.wrong(token, Desk.SORT);
            }
            expressions.call(depth, symbol, token);
            code.put(Code.DROP, 1);
        }

        /** In the first pass a VARIABLE is known to stand before := only when that comes; in the second at once. */
        private void assignment(int depth) {
            int type = expressions.place(depth, true);
            tokens.need(Tokens.BECOMES);
            int targets = 1;
            boolean more = true;
            for (int i = 0; more && i < Tokens.MOST; i++) {
                int start = tokens.at();
                boolean target = tokens.isVariable(start) && tokens.kindOf(tokens.endOf(start)) == Tokens.BECOMES;
                int found = target ? expressions.place(depth, true) : expressions.expression(depth);
                desk.check(type, found, start);
                targets += target ? 1 : 0;
                if (target && targets == MOST_TARGETS + 1) {
                    desk.wrong(start, Desk.NUMBER);
                }
                more = (target || tokens.isVariable(start)) && tokens.take(Tokens.BECOMES);
            }
            code.put(Code.STORE, targets);
        }

        private void print(int depth) {
            tokens.need(Tokens.PRINT);
            if (tokens.kind() != Tokens.OPEN) {
                tokens.fail();
                return;
            }
            int in = tokens.open(depth);
            expressions.expression(in);
            tokens.need(Tokens.CLOSE);
            code.put(Code.PRINT);
        }

        private void choice(int depth) {
            int toElse = expressions.test(depth);
            scoped(depth + 1);
            if (tokens.take(Tokens.ELSE)) {
                int toEnd = code.put(Code.JUMP);
                code.patch(toElse);
                scoped(depth + 1);
                code.patch(toEnd);
            } else {
                code.patch(toElse);
            }
        }

        /** The VARIABLE's place is made once, as a part that each round goes to; so is the STATEMENT. */
        private void loop(int depth) {
            int in = tokens.open(depth);
            int over = code.put(Code.JUMP);
            int token = tokens.at();
            int type = expressions.place(in, false);
            desk.check(Symbols.INTEGER, type, token);
            code.put(Code.END_SUB);
            code.patch(over);
            tokens.need(Tokens.BECOMES);
            int slot = nest.take(1);
            int rounds = 0;
            for (int i = 0; i < Tokens.MOST && (i == 0 || tokens.take(Tokens.COMMA)); i++) {
                rounds = element(in, over + 1, slot, rounds);
            }
            tokens.need(Tokens.DO);
            int exit = code.put(Code.JUMP);
            code.patchAll(rounds);
            scoped(in);
            code.put(Code.BACK, slot);
            code.patch(exit);
            nest.giveBack(slot);
        }

        /** One ELEMENT; answers its jump to the STATEMENT, which has the address of the one before. */
        private int element(int depth, int place, int slot, int before) {
            int round = code.here();
            code.put(Code.STEP);
            code.put(Code.GOSUB, place);
            expressions.typed(depth, Symbols.INTEGER);
            code.put(Code.STORE, 1);
            if (tokens.take(Tokens.STEP)) {
                return stepping(depth, place, slot, before);
            }
            if (!tokens.take(Tokens.WHILE)) {
                return body(slot, before);
            }
            expressions.typed(depth, Symbols.BOOLEAN);
            int toNext = code.put(Code.JUMP_FALSE);
            int body = body(slot, before);
            code.put(Code.JUMP, round);
            code.patch(toNext);
            return body;
        }

        private int body(int slot, int before) {
            code.put(Code.LINK, slot);
            return code.put(Code.JUMP, before);
        }

        private int stepping(int depth, int place, int slot, int before) {
            int toTest = code.put(Code.JUMP);
            int by = code.here();
            expressions.typed(depth, Symbols.INTEGER);
            code.put(Code.END_SUB);
            tokens.need(Tokens.UNTIL);
            int test = code.here();
            code.patch(toTest);
            code.put(Code.GOSUB, by);
            code.put(Code.GOSUB, place);
            code.put(Code.LOAD);
            expressions.typed(depth, Symbols.INTEGER);
            code.put(Code.FOR_TEST);
            int toNext = code.put(Code.JUMP_FALSE);
            int body = body(slot, before);
            code.put(Code.STEP);
            code.put(Code.GOSUB, place);
            code.put(Code.GOSUB, place);
            code.put(Code.LOAD);
            code.put(Code.GOSUB, by);
            code.put(Code.ADD);
            code.put(Code.STORE, 1);
            code.put(Code.JUMP, test);
            code.patch(toNext);
            return body;
        }
    }

    /**
     * The machine. Its store: the own VARIABLES, the ELEMENTS, the frames of the PROGRAM and of each call. Its stack
     * has the operands; what a call or use goes back to is kept by its depth.
     */
    private static final class Machine {
        private static final int MOST_DEPTH = 60;
        private static final int MOST_ELEMENTS = 2000;
        private static final int MOST_KEPT = 500;
        private static final int WORD_BITS = 36;
        private static final int LONG_BITS = 64;
        /** How often a word of the code may be come to for one STEP: a for's place thrice. */
        private static final int MOST_VISITS = 4;

        private static final int ELEMENTS_AT = MOST_BYTES / 2;
        private static final int FRAMES_AT = ELEMENTS_AT + MOST_ELEMENTS;
        /** 200 NAMES of 8 words at most, a word for each BLOCK and for that are open, and the frame's first words. */
        private static final int MOST_FRAME = 200 * 8 + 2 * (Tokens.MOST_DEPTH + 2) + Code.FIRST_SLOT;
        private static final int STORE_SIZE = FRAMES_AT + (MOST_DEPTH + 1) * MOST_FRAME;
        /** In each ( or [ eight operands may wait, and of an ELEMENT three more; 20 places; and of a call 16. */
        private static final int MOST_WAITING = (Tokens.MOST_DEPTH + 2) * 11 + 24 + 16;
        private static final int STACK_SIZE = (MOST_DEPTH + 1) * MOST_WAITING;

        /** What's counted of a RUN, by the numbers that count has for it. */
        private static final int PRINTS = 3;
        private static final int STEPS = 4;
        private static final int DEEPEST = 5;
        private static final int FULLEST = 6;
        private static final int STRANGE = 7;

        private static final int GOING = -2;
        private static final int STOPPED = -1;
        private static final int ENDED = 0;
        private static final int ERROR_INDEX = 1;
        private static final int ERROR_NUMBER = 2;
        private static final int ERROR_ELEMENTS = 3;
        private static final int ERROR_PLACE = 4;
        private static final int ERROR_DEPTH = 6;

        private final long[] code = new long[Code.MOST];
        private final long[] store = new long[STORE_SIZE];
        private final long[] stack = new long[STACK_SIZE];
        private final int[] modes = new int[MOST_DEPTH + 1];
        private final int[] backs = new int[MOST_DEPTH + 1];
        private final int[] callers = new int[MOST_DEPTH + 1];
        private final long[] kept = new long[MOST_KEPT];
        private final int[] tallies = new int[STRANGE + 1];
        private int size;
        private int owns;
        private int state;
        private int next;
        private int frame;
        private int top;
        private int height;
        private int depth;
        private int elements;
        private int allowed;

        void load(Code made, int ownVariables) {
            owns = Math.min(ownVariables, ELEMENTS_AT);
            size = made.size();
            for (int i = 0; i < size; i++) {
                Rows.set(code, i, Rows.get(made.words(), i));
            }
        }

        int kept() {
            return Math.min(tally(PRINTS), MOST_KEPT);
        }

        long printed(int i) {
            return Rows.get(kept, i);
        }

        int tally(int what) {
            return what >= PRINTS && what <= STRANGE ? Rows.get(tallies, what) : -1;
        }

        private void countOne(int what) {
            Rows.set(tallies, what, tally(what) + 1);
        }

        private void countMost(int what, int number) {
            Rows.set(tallies, what, Math.max(tally(what), number));
        }

        int go(int most) {
            start(most);
            long bound = (most + 2L) * MOST_VISITS * Code.MOST;
            for (long i = 0; state == GOING && i < bound; i++) {
                tick();
            }
            if (state == GOING) {
                oddity();
            }
            return state;
        }

        private void start(int most) {
            allowed = most;
            Arrays.fill(tallies, 0);
            depth = 0;
            height = 0;
            elements = 0;
            state = GOING;
            Arrays.fill(store, 0, owns, 0);
            top = FRAMES_AT;
            enterFrame(codeAt(0), 0);
        }

        /** Counts what can't be, and ends the RUN. */
        private void oddity() {
            countOne(STRANGE);
            state = ENDED;
        }

        private void error(int number) {
            state = number;
        }

        private int codeAt(int address) {
            return (int) wordAt(address);
        }

        private long wordAt(int address) {
            if (address < 0 || address >= size) {
                oddity();
                return 0;
            }
            return Rows.get(code, address);
        }

        private long read(long address) {
            if (address < 0 || address >= top) {
                oddity();
                return 0;
            }
            return Rows.get(store, (int) address);
        }

        private void write(long address, long value) {
            if (address < 0 || address >= top) {
                oddity();
                return;
            }
            Rows.set(store, (int) address, value);
        }

        private void push(long value) {
            if (height >= STACK_SIZE) {
                oddity();
                return;
            }
            Rows.set(stack, height, value);
            height++;
        }

        private long pop() {
            if (height <= 0) {
                oddity();
                return 0;
            }
            height--;
            return Rows.get(stack, height);
        }

        private static long wrap(long value) {
            int spare = LONG_BITS - WORD_BITS;
            return value << spare >> spare;
        }

        /** The frame that many further out; the own VARIABLES are where the store begins. */
        private int frameAt(int hops) {
            if (hops == Code.OWN_HOPS) {
                return 0;
            }
            int found = frame;
            for (int i = 0; i < hops; i++) {
                found = (int) read(found + Code.LINK_SLOT);
            }
            return found;
        }

        private void tick() {
            long word = wordAt(next);
            next++;
            int what = Code.what(word);
            int operand = Code.operand(word);
            if (what < Code.NEGATE) {
                long second = pop();
                long first = pop();
                calculate(what, first, second);
            } else if (what < Code.MAKE) {
                move(what, Code.hops(word), operand);
            } else if (what < Code.STEP) {
                jump(what, Code.hops(word), operand);
            } else {
                flow(what, operand);
            }
        }

        private void calculate(int what, long first, long second) {
            switch (what) {
                case Code.ADD:
                    push(wrap(first + second));
                    break;
                case Code.SUBTRACT:
                    push(wrap(first - second));
                    break;
                case Code.MULTIPLY:
                    push(wrap(first * second));
                    break;
                case Code.DIVIDE:
                case Code.REMAINDER:
                    divide(what, first, second);
                    break;
                case Code.RAISE:
                    raise(first, second);
                    break;
                default:
                    push(holds(what, first, second) ? 1 : 0);
                    break;
            }
        }

        private void divide(int what, long first, long second) {
            if (second == 0) {
                error(ERROR_NUMBER);
            } else {
                push(wrap(what == Code.DIVIDE ? first / second : first % second));
            }
        }

        /** By squares: in words that wrap it comes to the same as multiplying so many times. */
        private void raise(long first, long second) {
            if (second < 0) {
                error(ERROR_NUMBER);
                return;
            }
            long result = 1;
            long square = first;
            for (int bit = 0; bit < WORD_BITS; bit++) {
                if ((second >> bit & 1) != 0) {
                    result = wrap(result * square);
                }
                square = wrap(square * square);
            }
            push(result);
        }

        private boolean holds(int what, long first, long second) {
            switch (what) {
                case Code.LESS:
                    return first < second;
                case Code.AT_MOST:
                    return first <= second;
                case Code.EQUAL:
                    return first == second;
                case Code.AT_LEAST:
                    return first >= second;
                case Code.MORE:
                    return first > second;
                case Code.UNLIKE:
                    return first != second;
                case Code.AND:
                    return first != 0 && second != 0;
                case Code.OR:
                    return first != 0 || second != 0;
                case Code.IMPLIES:
                    return first == 0 || second != 0;
                default:
                    oddity();
                    return false;
            }
        }

        private void move(int what, int hops, int operand) {
            switch (what) {
                case Code.NEGATE:
                    push(wrap(-pop()));
                    break;
                case Code.NOT:
                    push(1 - pop());
                    break;
                case Code.LITERAL:
                    push(wordAt(next));
                    next++;
                    break;
                case Code.VALUE:
                    push(read(frameAt(hops) + operand));
                    break;
                case Code.PLACE:
                    push(frameAt(hops) + operand);
                    break;
                case Code.PAIR:
                    int slot = frameAt(hops) + operand;
                    push(read(slot));
                    push(read(slot + 1));
                    break;
                case Code.AT:
                    push(codeAt(operand));
                    push(frameAt(hops));
                    break;
                case Code.THUNK:
                    push(operand);
                    push(frame);
                    break;
                case Code.LOAD:
                    push(read(pop()));
                    break;
                case Code.ELEMENT:
                    element(operand);
                    break;
                case Code.STORE:
                    assign(operand);
                    break;
                case Code.DROP:
                    height = Math.max(height - operand, 0);
                    break;
                case Code.PRINT:
                    print(pop());
                    break;
                default:
                    clear(operand >> Code.COUNT_BITS, operand & (1 << Code.COUNT_BITS) - 1);
                    break;
            }
        }

        private void assign(int places) {
            long value = pop();
            for (int i = 0; i < places; i++) {
                write(pop(), value);
            }
        }

        private void print(long value) {
            Rows.set(kept, tally(PRINTS), value);
            countOne(PRINTS);
        }

        private void clear(int slot, int words) {
            for (int i = 0; i < words; i++) {
                write(frame + slot + i, 0);
            }
        }

        /** Indices, below them where the ARRAY is told (how many bounds, first ELEMENT, bounds), to a place. */
        private void element(int indices) {
            int first = height - indices;
            long array = Rows.get(stack, first - 1);
            boolean inside = read(array) == indices;
            long offset = 0;
            for (int i = 0; inside && i < indices; i++) {
                long index = Rows.get(stack, first + i);
                long low = read(array + 2 + 2 * i);
                long high = read(array + 3 + 2 * i);
                inside = index >= low && index <= high;
                offset = offset * (high - low + 1) + index - low;
            }
            if (inside) {
                height = Math.max(first - 1, 0);
                push(read(array + 1) + offset);
            } else {
                error(ERROR_INDEX);
            }
        }

        /** An ARRAY with the bounds that are on the stack, and stay there for the next of its list. */
        private void make(int bounds, int slot) {
            int array = frame + slot;
            long size = 1;
            write(array, bounds);
            write(array + 1, ELEMENTS_AT + elements);
            for (int i = 0; i < bounds; i++) {
                long low = Rows.get(stack, height - 2 * (bounds - i));
                long high = Rows.get(stack, height - 2 * (bounds - i) + 1);
                write(array + 2 + 2 * i, low);
                write(array + 3 + 2 * i, high);
                long length = Math.max(Math.min(high - low + 1, MOST_ELEMENTS + 1), 0);
                size = Math.min(size, MOST_ELEMENTS + 1) * length;
            }
            if (elements + size > MOST_ELEMENTS) {
                error(ERROR_ELEMENTS);
                return;
            }
            for (int i = 0; i < size; i++) {
                write(ELEMENTS_AT + elements + i, 0);
            }
            elements += (int) size;
            countMost(FULLEST, elements);
        }

        private void jump(int what, int hops, int operand) {
            switch (what) {
                case Code.MAKE:
                    make(hops, operand);
                    break;
                case Code.KEEP:
                    write(frame + operand, elements);
                    break;
                case Code.LEVEL:
                    elements = (int) read(frame + operand);
                    break;
                case Code.JUMP:
                    next = operand;
                    break;
                case Code.JUMP_FALSE:
                    next = pop() == 0 ? operand : next;
                    break;
                case Code.GOSUB:
                    push(next);
                    next = operand;
                    break;
                case Code.END_SUB:
                    long left = pop();
                    next = (int) pop();
                    push(left);
                    break;
                case Code.LINK:
                    write(frame + operand, next + 1);
                    break;
                case Code.BACK:
                    next = (int) read(frame + operand);
                    break;
                default:
                    forTest();
                    break;
            }
        }

        private void forTest() {
            long limit = pop();
            long value = pop();
            long by = pop();
            boolean over = by > 0 && value > limit || by < 0 && value < limit;
            push(over ? 0 : 1);
        }

        private void flow(int what, int operand) {
            switch (what) {
                case Code.STEP:
                    pay();
                    break;
                case Code.MARK:
                    deeper();
                    break;
                case Code.CALL:
                    call();
                    break;
                case Code.RETURN:
                    long result = read(frame + Code.RESULT_SLOT);
                    top = frame;
                    goBack();
                    push(result);
                    break;
                case Code.USE:
                    use(operand);
                    break;
                case Code.USE_SAME:
                    use(Rows.get(modes, depth));
                    break;
                case Code.END_USE:
                    goBack();
                    break;
                case Code.END_PLACE:
                    if (Rows.get(modes, depth) == Code.FOR_VALUE) {
                        push(read(pop()));
                    }
                    goBack();
                    break;
                case Code.NO_PLACE:
                    if (Rows.get(modes, depth) == Code.FOR_PLACE) {
                        error(ERROR_PLACE);
                    }
                    break;
                case Code.SWITCH:
                    choose();
                    break;
                case Code.GOTO:
                    goTo();
                    break;
                case Code.HALT:
                    state = ENDED;
                    break;
                default:
                    oddity();
                    break;
            }
        }

        private boolean pay() {
            if (tally(STEPS) >= allowed) {
                state = STOPPED;
                return false;
            }
            countOne(STEPS);
            return true;
        }

        /** A call or use begins; false if it can't. */
        private boolean deeper() {
            if (!pay()) {
                return false;
            }
            if (depth >= MOST_DEPTH) {
                error(ERROR_DEPTH);
                return false;
            }
            depth++;
            countMost(DEEPEST, depth);
            return true;
        }

        /** Goes on elsewhere, and keeps where to go back to. */
        private void goThere(int address, int there) {
            Rows.set(backs, depth, next);
            Rows.set(callers, depth, frame);
            next = address;
            frame = there;
        }

        private void goBack() {
            next = Rows.get(backs, depth);
            frame = Rows.get(callers, depth);
            depth--;
        }

        private void use(int mode) {
            int there = (int) pop();
            int address = (int) pop();
            if (deeper()) {
                Rows.set(modes, depth, mode);
                goThere(address, there);
            }
        }

        private void call() {
            int link = (int) pop();
            int head = (int) pop();
            goThere(head, frame);
            enterFrame(head, link);
        }

        /** A frame for the procedure whose head is there; its formals are what's on the stack. */
        private void enterFrame(int head, int link) {
            int formals = codeAt(head);
            int words = codeAt(head + 1);
            if (formals < 0 || formals > height || words < 0 || words > STORE_SIZE - top) {
                oddity();
                return;
            }
            frame = top;
            top += words;
            height -= formals;
            for (int i = 0; i < formals; i++) {
                write(frame + Code.FIRST_SLOT + i, Rows.get(stack, height + i));
            }
            write(frame + Code.LINK_SLOT, link);
            write(frame + Code.DEPTH_SLOT, depth);
            write(frame + Code.ELEMENTS_SLOT, elements);
            write(frame + Code.HEIGHT_SLOT, height);
            write(frame + Code.TOP_SLOT, top);
            write(frame + Code.RESULT_SLOT, 0);
            next = head + Code.HEAD;
        }

        private void choose() {
            int there = (int) pop();
            int address = (int) pop();
            long index = pop();
            if (!deeper()) {
                return;
            }
            if (index < 1 || index > codeAt(address)) {
                error(ERROR_INDEX);
                return;
            }
            address++;
            for (int i = 1; i < index; i++) {
                address = codeAt(address);
            }
            Rows.set(modes, depth, Code.FOR_AIM);
            goThere(address + 1, there);
        }

        /** All that was begun in the LABEL's frame ends; how many ELEMENTS stay is told where the LABEL is. */
        private void goTo() {
            frame = (int) pop();
            next = (int) pop();
            depth = (int) read(frame + Code.DEPTH_SLOT);
            height = (int) read(frame + Code.HEIGHT_SLOT);
            top = (int) read(frame + Code.TOP_SLOT);
        }
    }
}
