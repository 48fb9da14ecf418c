import java.util.Arrays;

/**
 * A small typed language whose functions for any type take what is boxed.
 * A text is fed, compiled, and its DEFS are run with boxes or as they are.
 */
public final class BoxedCore {
    public static final int NONE = -1;

    private static final int TEXT_LIMIT = 3000;
    private static final int FEED_LIMIT = 8;
    private static final int ARGUMENT_LIMIT = 6;
    private static final int STEP_LIMIT = 20000;

    private final int[] text;
    private int size;
    private boolean compiled;
    private final long[] arguments;
    private int argumentCount;
    private final Fault fault;
    private final Fault clash;
    private final Tokens tokens;
    private final Types types;
    private final Tree tree;
    private final Table table;
    private final Parser parser;
    private final Checker checker;
    private final Machine machine;

    public BoxedCore() {
        text = new int[TEXT_LIMIT];
        arguments = new long[ARGUMENT_LIMIT];
        fault = new Fault();
        clash = new Fault();
        tokens = new Tokens(fault);
        types = new Types();
        tree = new Tree();
        table = new Table();
        parser = new Parser(tokens, types, tree, table, fault, clash);
        checker = new Checker(types, tree, table, fault);
        machine = new Machine(types, tree, table);
    }

    public int feed(int n, long octets) throws IllegalArgumentException {
        if (n < 1 || n > FEED_LIMIT || size + n > TEXT_LIMIT) {
            throw new IllegalArgumentException("n is not 1 .. 8, or the text would be too long");
        }
        for (int i = 0; i < n && size < text.length; i++) {
            text[size] = (int) (octets >>> (8 * i)) & 255;
            size++;
        }
        forget();
        return size;
    }

    public int wipe() {
        int before = size;
        size = 0;
        forget();
        return before;
    }

    public int compile() {
        // The same TEXT always reads the same, so it is read only once.
        if (!compiled) {
            compiled = true;
            fault.clear();
            clash.clear();
            types.clear();
            tree.clear();
            table.clear();
            tokens.scan(text, size);
            parser.readProgram();
            // A clash of NAMES or LETTERS comes behind every fault of the grammar.
            if (clash.isTold()) {
                fault.tell(Fault.CLASH, clash.where());
            }
            checker.checkAll();
        }
        return fault.isTold() ? -fault.what() : table.size();
    }

    public int place() {
        return compiled && fault.isTold() ? fault.where() : NONE;
    }

    public int defs() {
        return compiled && !fault.isTold() ? table.size() : 0;
    }

    public int def(int d, int what) throws IndexOutOfBoundsException {
        if (d < 0 || d >= defs() || what < 0 || what >= Table.TALLIES) {
            throw new IndexOutOfBoundsException("no such DEF, or nothing to tell of it");
        }
        return table.tally(d, what);
    }

    public int argument(long v) throws IllegalStateException {
        if (argumentCount >= ARGUMENT_LIMIT) {
            throw new IllegalStateException("there are six arguments");
        }
        arguments[argumentCount] = v;
        argumentCount++;
        return argumentCount;
    }

    public int run(int d, boolean boxes, int steps)
            throws IndexOutOfBoundsException, IllegalArgumentException {
        if (d < 0 || d >= defs()) {
            throw new IndexOutOfBoundsException("no such DEF");
        }
        if (steps < 0 || steps > STEP_LIMIT || !takesArguments(d)) {
            throw new IllegalArgumentException("steps, or the arguments, do not fit");
        }
        argumentCount = 0;
        return machine.start(d, arguments, boxes, steps);
    }

    public int told(int what) throws IndexOutOfBoundsException {
        if (what < 0 || what >= Machine.COUNTS) {
            throw new IndexOutOfBoundsException("nothing is told of that");
        }
        return machine.countOf(what);
    }

    public int sort(int way) {
        return machine.sortAt(way);
    }

    public long result(int way) {
        return machine.wordAt(way);
    }

    private void forget() {
        compiled = false;
        argumentCount = 0;
        machine.forget();
    }

    private boolean takesArguments(int d) {
        if (table.parameters(d) != argumentCount) {
            return false;
        }
        for (int i = 0; i < argumentCount; i++) {
            int kind = types.kind(table.localType(d, i));
            if (kind != Types.LONG && kind != Types.DOUBLE) {
                return false;
            }
        }
        return true;
    }

    /** The first fault that is told stays; what comes behind it is of no interest. */
    private static final class Fault {
        static final int TOKEN = 1;
        static final int GRAMMAR = 2;
        static final int DEPTH = 3;
        static final int NUMBER = 4;
        static final int CLASH = 5;
        static final int UNKNOWN = 6;
        static final int TYPE = 7;

        private int code;
        private int spot;

        void clear() {
            code = 0;
            spot = NONE;
        }

        void tell(int which, int at) {
            if (code == 0) {
                code = which;
                spot = at;
            }
        }

        boolean isTold() {
            return code != 0;
        }

        int what() {
            return code;
        }

        int where() {
            return spot;
        }
    }

    /** The TOKENS of THE TEXT. */
    private static final class Tokens {
        static final int END = 0;
        static final int NAME = 1;
        static final int NUMBER = 2;
        static final int BITS = 3;
        static final int LETTER = 4;
        static final int LONG = 5;
        static final int DOUBLE = 6;
        static final int LET = 7;
        static final int IN = 8;
        static final int IF = 9;
        static final int THEN = 10;
        static final int ELSE = 11;
        static final int FN = 12;
        static final int FST = 13;
        static final int SND = 14;
        static final int OPEN = 15;
        static final int CLOSE = 16;
        static final int COLON = 17;
        static final int EQUALS = 18;
        static final int SEMICOLON = 19;
        static final int COMMA = 20;
        static final int STAR = 21;
        static final int PLUS = 22;
        static final int MINUS = 23;
        static final int LESS = 24;
        static final int ARROW = 25;

        private static final int LIMIT = 900;
        private static final int NAME_LIMIT = 10;
        private static final int BITS_LIMIT = 16;
        private static final int LETTER_COUNT = 4;
        private static final int WORD_COUNT = 10;
        // In the order of the kinds that begin with LONG.
        private static final String WORDS = "long double let in if then else fn fst snd ";
        // In the order of the kinds that begin with OPEN.
        private static final String SIGNS = "():=;,*+-<";

        private final Fault fault;
        private final int[] kinds;
        private final int[] places;
        private final long[] values;
        private final long[] words;
        private int count;
        private int length;

        Tokens(Fault fault) {
            this.fault = fault;
            kinds = new int[LIMIT];
            places = new int[LIMIT];
            values = new long[LIMIT];
            words = new long[WORD_COUNT];
            int word = 0;
            long code = 0;
            for (int i = 0; i < WORDS.length() && word < WORD_COUNT; i++) {
                if (WORDS.charAt(i) == ' ') {
                    words[word] = code;
                    word++;
                    code = 0;
                } else {
                    code = withOctet(code, WORDS.charAt(i));
                }
            }
        }

        int kind(int i) {
            return i >= 0 && i < count ? kinds[i] : END;
        }

        int placeOf(int i) {
            return i >= 0 && i < count ? places[i] : length;
        }

        /** A NUMBER, BITS, a LETTER's number, or a NAME packed into a long. */
        long value(int i) {
            return i >= 0 && i < count ? values[i] : 0;
        }

        int size() {
            return count;
        }

        void scan(int[] text, int size) {
            count = 0;
            length = Math.min(size, text.length);
            int width = 1;
            for (int at = 0; at < length && !fault.isTold(); at += Math.max(1, width)) {
                if (text[at] == ' ' || text[at] == '\n') {
                    width = 1;
                } else if (count >= LIMIT) {
                    fault.tell(Fault.TOKEN, at);
                } else {
                    width = scanToken(text, at);
                }
            }
        }

        /** Answers how many octets the TOKEN at this place has. */
        private int scanToken(int[] text, int at) {
            int octet = octetAt(text, at);
            if (isLetter(octet)) {
                return scanName(text, at);
            }
            if (isDigit(octet)) {
                return scanNumber(text, at);
            }
            switch (octet) {
                case '#':
                    return scanBits(text, at);
                case '\'':
                    return scanLetter(text, at);
                default:
                    return scanSign(text, at);
            }
        }

        private int scanName(int[] text, int at) {
            long code = 0;
            int end = at;
            while (end < length && (isLetter(octetAt(text, end)) || isDigit(octetAt(text, end)))) {
                if (end - at < NAME_LIMIT) {
                    code = withOctet(code, octetAt(text, end));
                }
                end++;
            }
            if (end - at > NAME_LIMIT) {
                fault.tell(Fault.TOKEN, at);
            } else {
                add(kindOfName(code), at, code);
            }
            return end - at;
        }

        private int kindOfName(long code) {
            for (int i = 0; i < WORD_COUNT; i++) {
                if (words[i] == code) {
                    return LONG + i;
                }
            }
            return NAME;
        }

        private int scanNumber(int[] text, int at) {
            long value = 0;
            boolean great = false;
            int end = at;
            while (end < length && isDigit(octetAt(text, end))) {
                int digit = octetAt(text, end) - '0';
                great = great || value > (Long.MAX_VALUE - digit) / 10;
                value = value * 10 + digit;
                end++;
            }
            if (great) {
                fault.tell(Fault.TOKEN, at);
            } else {
                add(NUMBER, at, value);
            }
            return end - at;
        }

        private int scanBits(int[] text, int at) {
            long value = 0;
            int end = at + 1;
            while (end < length && hexDigit(octetAt(text, end)) >= 0) {
                value = value << 4 | hexDigit(octetAt(text, end));
                end++;
            }
            int digits = end - at - 1;
            if (digits < 1 || digits > BITS_LIMIT) {
                fault.tell(Fault.TOKEN, at);
            } else {
                add(BITS, at, value);
            }
            return end - at;
        }

        private int scanLetter(int[] text, int at) {
            int letter = octetAt(text, at + 1) - 'a';
            if (letter < 0 || letter >= LETTER_COUNT) {
                fault.tell(Fault.TOKEN, at);
            } else {
                add(LETTER, at, letter);
            }
            return 2;
        }

        private int scanSign(int[] text, int at) {
            if (octetAt(text, at) == '-' && octetAt(text, at + 1) == '>') {
                add(ARROW, at, 0);
                return 2;
            }
            for (int i = 0; i < SIGNS.length(); i++) {
                if (SIGNS.charAt(i) == octetAt(text, at)) {
                    add(OPEN + i, at, 0);
                    return 1;
                }
            }
            fault.tell(Fault.TOKEN, at);
            return 1;
        }

        private void add(int kind, int place, long value) {
            if (count < LIMIT) {
                kinds[count] = kind;
                places[count] = place;
                values[count] = value;
                count++;
            }
        }

        private int octetAt(int[] text, int at) {
            return at >= 0 && at < length && at < text.length ? text[at] : NONE;
        }

        private static boolean isLetter(int octet) {
            return octet >= 'a' && octet <= 'z';
        }

        private static boolean isDigit(int octet) {
            return octet >= '0' && octet <= '9';
        }

        private static int hexDigit(int octet) {
            if (isDigit(octet)) {
                return octet - '0';
            }
            return octet >= 'a' && octet <= 'f' ? octet - 'a' + 10 : NONE;
        }

        /** No octet counts 0, so that no two NAMES are packed alike. */
        private static long withOctet(long code, int octet) {
            int digit = isDigit(octet) ? octet - '0' + 27 : octet - 'a' + 1;
            return code * 37 + digit;
        }
    }

    /** All TYPES, each kept once, so that those told alike have the same number. */
    private static final class Types {
        static final int LONG = 0;
        static final int DOUBLE = 1;
        static final int LETTER = 2;
        static final int PAIR = 3;
        static final int FUNCTION = 4;
        static final int LETTERS = 4;

        static final int LONG_TYPE = 0;
        static final int DOUBLE_TYPE = 1;
        private static final int FIRST_LETTER = 2;
        private static final int BASES = FIRST_LETTER + LETTERS;
        private static final int FIRST_ROOM = 2048;
        // 900 TOKENS tell far fewer TYPES than this.
        private static final int LAST_ROOM = 65536;
        private static final int CHAINS = 1024;
        // Enough to know that there are too many, and never near an int's end.
        private static final int LEAVES_CAP = 1000000;

        private int[] kinds;
        private int[] lefts;
        private int[] rights;
        private int[] leaves;
        private int[] masks;
        private int[] nexts;
        private final int[] heads;
        private int count;

        Types() {
            kinds = new int[FIRST_ROOM];
            lefts = new int[FIRST_ROOM];
            rights = new int[FIRST_ROOM];
            leaves = new int[FIRST_ROOM];
            masks = new int[FIRST_ROOM];
            nexts = new int[FIRST_ROOM];
            heads = new int[CHAINS];
            for (int i = 0; i < BASES; i++) {
                kinds[i] = Math.min(i, LETTER);
                leaves[i] = 1;
                masks[i] = i < FIRST_LETTER ? 0 : 1 << (i - FIRST_LETTER);
                lefts[i] = NONE;
                rights[i] = NONE;
            }
        }

        void clear() {
            count = BASES;
            Arrays.fill(heads, NONE);
        }

        int letter(int number) {
            return FIRST_LETTER + number;
        }

        int letterNumber(int type) {
            return type - FIRST_LETTER;
        }

        int kind(int type) {
            return type >= 0 && type < count ? kinds[type] : NONE;
        }

        int left(int type) {
            return type >= 0 && type < count ? lefts[type] : NONE;
        }

        int right(int type) {
            return type >= 0 && type < count ? rights[type] : NONE;
        }

        /** How many of long, double, LETTERS it has. */
        int leaves(int type) {
            return type >= 0 && type < count ? leaves[type] : 0;
        }

        /** One bit for each LETTER in it. */
        int letters(int type) {
            return type >= 0 && type < count ? masks[type] : 0;
        }

        /** A pair or function of two TYPES; NONE if one of them is none. */
        int make(int kind, int left, int right) {
            if (left < 0 || left >= count || right < 0 || right >= count) {
                return NONE;
            }
            int chain = (left * 31 + right * 17 + kind) & (CHAINS - 1);
            int id = heads[chain];
            for (int turn = 0; turn < count && id >= 0 && id < count; turn++) {
                if (kinds[id] == kind && lefts[id] == left && rights[id] == right) {
                    return id;
                }
                id = nexts[id];
            }
            if (count >= LAST_ROOM) {
                return NONE;
            }
            if (count >= kinds.length) {
                int room = kinds.length * 2;
                kinds = Arrays.copyOf(kinds, room);
                lefts = Arrays.copyOf(lefts, room);
                rights = Arrays.copyOf(rights, room);
                leaves = Arrays.copyOf(leaves, room);
                masks = Arrays.copyOf(masks, room);
                nexts = Arrays.copyOf(nexts, room);
            }
            kinds[count] = kind;
            lefts[count] = left;
            rights[count] = right;
            leaves[count] = Math.min(LEAVES_CAP, leaves[left] + leaves[right]);
            masks[count] = masks[left] | masks[right];
            nexts[count] = heads[chain];
            heads[chain] = count;
            count++;
            return count - 1;
        }
    }

    /**
     * The EXPRS of all DEFS. Each one's parts are added before itself, from left to right:
     * in the order in which they are typed.
     */
    private static final class Tree {
        static final int NUMBER = 0;
        static final int BITS = 1;
        static final int LOCAL = 2;
        static final int NAME = 3;
        // A NAME without brackets before ATOMS: it may be that of a DEF with PARAMETERS.
        static final int HEAD = 4;
        static final int CALLEE = 5;
        static final int DEF_NAME = 6;
        static final int LET = 7;
        static final int IF = 8;
        static final int FN = 9;
        static final int PLUS = 10;
        static final int MINUS = 11;
        static final int LESS = 12;
        static final int PAIR = 13;
        static final int FST = 14;
        static final int SND = 15;
        static final int CALL = 16;
        static final int DEF_CALL = 17;

        // Each EXPR but a CALL has a TOKEN of its own, and a CALL has two parts or more.
        private static final int LIMIT = 1800;

        private final int[] kinds;
        private final int[] places;
        private final int[] firsts;
        private final int[] seconds;
        private final int[] thirds;
        private final int[] nexts;
        private final int[] types;
        private final long[] values;
        private final boolean[] shorts;
        private final int[] fits;
        private int count;

        Tree() {
            kinds = new int[LIMIT];
            places = new int[LIMIT];
            firsts = new int[LIMIT];
            seconds = new int[LIMIT];
            thirds = new int[LIMIT];
            nexts = new int[LIMIT];
            types = new int[LIMIT];
            values = new long[LIMIT];
            shorts = new boolean[LIMIT];
            fits = new int[LIMIT * Types.LETTERS];
        }

        void clear() {
            count = 0;
        }

        int size() {
            return count;
        }

        int add(int kind, int place, int first, int second, int third) {
            if (count >= LIMIT) {
                return NONE;
            }
            kinds[count] = kind;
            places[count] = place;
            firsts[count] = first;
            seconds[count] = second;
            thirds[count] = third;
            nexts[count] = NONE;
            types[count] = NONE;
            values[count] = 0;
            shorts[count] = false;
            Arrays.fill(fits, count * Types.LETTERS, (count + 1) * Types.LETTERS, NONE);
            count++;
            return count - 1;
        }

        int kind(int node) {
            return node >= 0 && node < count ? kinds[node] : NONE;
        }

        void turnInto(int node, int kind) {
            if (node >= 0 && node < count) {
                kinds[node] = kind;
            }
        }

        int placeOf(int node) {
            return node >= 0 && node < count ? places[node] : NONE;
        }

        int first(int node) {
            return node >= 0 && node < count ? firsts[node] : NONE;
        }

        int second(int node) {
            return node >= 0 && node < count ? seconds[node] : NONE;
        }

        int third(int node) {
            return node >= 0 && node < count ? thirds[node] : NONE;
        }

        /** The ATOM behind this one in its CALL. */
        int next(int node) {
            return node >= 0 && node < count ? nexts[node] : NONE;
        }

        void chain(int node, int next) {
            if (node >= 0 && node < count) {
                nexts[node] = next;
            }
        }

        int type(int node) {
            return node >= 0 && node < count ? types[node] : NONE;
        }

        void setType(int node, int type) {
            if (node >= 0 && node < count) {
                types[node] = type;
            }
        }

        long value(int node) {
            return node >= 0 && node < count ? values[node] : 0;
        }

        void setValue(int node, long value) {
            if (node >= 0 && node < count) {
                values[node] = value;
            }
        }

        /** Whether its result goes a SHORT way. */
        boolean isShort(int node) {
            return node >= 0 && node < count && shorts[node];
        }

        void markShort(int node) {
            if (node >= 0 && node < count) {
                shorts[node] = true;
            }
        }

        /** The TYPE that fits a LETTER of the DEF that is called here. */
        int fit(int node, int letter) {
            if (node < 0 || node >= count || letter < 0 || letter >= Types.LETTERS) {
                return NONE;
            }
            return fits[node * Types.LETTERS + letter];
        }

        void setFit(int node, int letter, int type) {
            if (node >= 0 && node < count && letter >= 0 && letter < Types.LETTERS) {
                fits[node * Types.LETTERS + letter] = type;
            }
        }
    }

    /** The DEFS, with the locals of each: its PARAMETERS, then lets and fns as they come. */
    private static final class Table {
        static final int LIMIT = 30;
        static final int LOCALS = 24;
        static final int PARAMETER_LIMIT = 6;
        static final int TALLIES = 6;
        static final int PARAMETERS = 0;
        static final int LETTERS = 1;
        static final int CALLS = 2;
        static final int ADAPTED = 3;
        static final int RESULTS = 4;
        static final int SHORTS = 5;

        private final long[] names;
        private final int[] places;
        private final int[] types;
        private final int[] roots;
        private final int[] ends;
        private final int[] localCounts;
        private final int[] localTypes;
        private final int[] localBounds;
        private final int[] tallies;
        private int count;

        Table() {
            names = new long[LIMIT];
            places = new int[LIMIT];
            types = new int[LIMIT];
            roots = new int[LIMIT];
            ends = new int[LIMIT];
            localCounts = new int[LIMIT];
            localTypes = new int[LIMIT * LOCALS];
            localBounds = new int[LIMIT * LOCALS];
            tallies = new int[LIMIT * TALLIES];
        }

        void clear() {
            count = 0;
            Arrays.fill(tallies, 0);
        }

        int size() {
            return count;
        }

        int add(long name, int place) {
            if (count >= LIMIT) {
                return NONE;
            }
            names[count] = name;
            places[count] = place;
            types[count] = NONE;
            roots[count] = NONE;
            ends[count] = 0;
            localCounts[count] = 0;
            count++;
            return count - 1;
        }

        int find(long name) {
            for (int d = 0; d < count; d++) {
                if (names[d] == name) {
                    return d;
                }
            }
            return NONE;
        }

        int placeOf(int d) {
            return d >= 0 && d < count ? places[d] : NONE;
        }

        int type(int d) {
            return d >= 0 && d < count ? types[d] : NONE;
        }

        void setType(int d, int type) {
            if (d >= 0 && d < count) {
                types[d] = type;
            }
        }

        /** The EXPR of a DEF. */
        int root(int d) {
            return d >= 0 && d < count ? roots[d] : NONE;
        }

        /** Where the EXPRS of the next DEF begin in the tree. */
        int end(int d) {
            return d >= 0 && d < count ? ends[d] : 0;
        }

        void setRoot(int d, int root, int end) {
            if (d >= 0 && d < count) {
                roots[d] = root;
                ends[d] = end;
            }
        }

        int parameters(int d) {
            return d >= 0 && d < count ? tallies[d * TALLIES + PARAMETERS] : 0;
        }

        int locals(int d) {
            return d >= 0 && d < count ? localCounts[d] : 0;
        }

        int addLocal(int d) {
            if (d < 0 || d >= count || localCounts[d] >= LOCALS) {
                return NONE;
            }
            int local = localCounts[d];
            localTypes[d * LOCALS + local] = NONE;
            localBounds[d * LOCALS + local] = NONE;
            localCounts[d]++;
            return local;
        }

        /** The TYPE that is told of a PARAMETER or a fn's local. */
        int localType(int d, int local) {
            return hasLocal(d, local) ? localTypes[d * LOCALS + local] : NONE;
        }

        void setLocalType(int d, int local, int type) {
            if (hasLocal(d, local)) {
                localTypes[d * LOCALS + local] = type;
            }
        }

        /** The EXPR whose value a let's local has. */
        int localBound(int d, int local) {
            return hasLocal(d, local) ? localBounds[d * LOCALS + local] : NONE;
        }

        void setLocalBound(int d, int local, int node) {
            if (hasLocal(d, local)) {
                localBounds[d * LOCALS + local] = node;
            }
        }

        int tally(int d, int what) {
            if (d < 0 || d >= count || what < 0 || what >= TALLIES) {
                return 0;
            }
            return tallies[d * TALLIES + what];
        }

        void count(int d, int what, int more) {
            if (d >= 0 && d < count && what >= 0 && what < TALLIES) {
                tallies[d * TALLIES + what] += more;
            }
        }

        private boolean hasLocal(int d, int local) {
            return d >= 0 && d < count && local >= 0 && local < localCounts[d];
        }
    }

    /**
     * Reads the PROGRAM. Once a fault is told, every TOKEN is the end for it, so that all
     * methods come back by themselves.
     */
    private static final class Parser {
        private static final int DEPTH_LIMIT = 20;
        private static final int SIGN_LIMIT = 8;
        private static final int ATOM_LIMIT = 8;
        private static final int LEAF_LIMIT = 100;
        // Twenty TYPES within one another, of nine BASES each.
        private static final int BASE_ROOM = 200;

        private final Tokens tokens;
        private final Types types;
        private final Tree tree;
        private final Table table;
        private final Fault fault;
        private final Fault clash;
        private final long[] scopeNames;
        private final int[] scopeLocals;
        private int scopeCount;
        private final int[] bases;
        private int baseCount;
        private int at;
        private int current;
        private int parameterLetters;
        private int leafCount;

        Parser(Tokens tokens, Types types, Tree tree, Table table, Fault fault, Fault clash) {
            this.tokens = tokens;
            this.types = types;
            this.tree = tree;
            this.table = table;
            this.fault = fault;
            this.clash = clash;
            scopeNames = new long[Table.LOCALS];
            scopeLocals = new int[Table.LOCALS];
            bases = new int[BASE_ROOM];
        }

        void readProgram() {
            at = 0;
            for (int turn = 0; turn < tokens.size() && kind() != Tokens.END; turn++) {
                readDef();
            }
        }

        private void readDef() {
            if (kind() == Tokens.NAME && table.size() >= Table.LIMIT) {
                fault.tell(Fault.NUMBER, here());
            }
            int nameAt = at;
            expect(Tokens.NAME);
            if (fault.isTold()) {
                return;
            }
            if (table.find(tokens.value(nameAt)) != NONE) {
                clash.tell(Fault.CLASH, tokens.placeOf(nameAt));
            }
            current = table.add(tokens.value(nameAt), tokens.placeOf(nameAt));
            scopeCount = 0;
            parameterLetters = 0;
            for (int turn = 0; turn < tokens.size() && kind() == Tokens.OPEN; turn++) {
                readParameter();
            }
            table.count(current, Table.LETTERS, Integer.bitCount(parameterLetters));
            expect(Tokens.COLON);
            table.setType(current, readType(1, false));
            expect(Tokens.EQUALS);
            int root = readExpr(1);
            expect(Tokens.SEMICOLON);
            table.setRoot(current, root, tree.size());
        }

        private void readParameter() {
            expect(Tokens.OPEN);
            if (kind() == Tokens.NAME && table.parameters(current) >= Table.PARAMETER_LIMIT) {
                fault.tell(Fault.NUMBER, here());
            }
            int nameAt = at;
            int local = readLocal();
            if (findLocal(tokens.value(nameAt)) != NONE) {
                clash.tell(Fault.CLASH, tokens.placeOf(nameAt));
            }
            bind(tokens.value(nameAt), local);
            table.count(current, Table.PARAMETERS, 1);
            expect(Tokens.COLON);
            table.setLocalType(current, local, readType(1, true));
            expect(Tokens.CLOSE);
        }

        /** The NAME of a new local; it is bound only where its scope begins. */
        private int readLocal() {
            if (kind() == Tokens.NAME && table.locals(current) >= Table.LOCALS) {
                fault.tell(Fault.NUMBER, here());
            }
            expect(Tokens.NAME);
            return fault.isTold() ? NONE : table.addLocal(current);
        }

        private int readType(int depth, boolean ofParameter) {
            if (depth > DEPTH_LIMIT) {
                fault.tell(Fault.DEPTH, here());
                return NONE;
            }
            if (depth == 1) {
                leafCount = 0;
                baseCount = 0;
            }
            int part = readPart(depth, ofParameter);
            if (kind() != Tokens.ARROW) {
                return part;
            }
            at++;
            return types.make(Types.FUNCTION, part, readType(depth + 1, ofParameter));
        }

        private int readPart(int depth, boolean ofParameter) {
            int bottom = baseCount;
            pushBase(readBase(depth, ofParameter));
            for (int stars = 0; stars <= SIGN_LIMIT && kind() == Tokens.STAR; stars++) {
                if (stars == SIGN_LIMIT) {
                    fault.tell(Fault.DEPTH, here());
                } else {
                    at++;
                    pushBase(readBase(depth, ofParameter));
                }
            }
            int part = popBase();
            for (int turn = 0; turn < SIGN_LIMIT && baseCount > bottom; turn++) {
                part = types.make(Types.PAIR, popBase(), part);
            }
            return part;
        }

        private int readBase(int depth, boolean ofParameter) {
            switch (kind()) {
                case Tokens.LONG:
                    countLeaf();
                    return Types.LONG_TYPE;
                case Tokens.DOUBLE:
                    countLeaf();
                    return Types.DOUBLE_TYPE;
                case Tokens.LETTER:
                    return readLetter(ofParameter);
                case Tokens.OPEN:
                    at++;
                    int type = readType(depth + 1, ofParameter);
                    expect(Tokens.CLOSE);
                    return type;
                default:
                    fault.tell(Fault.GRAMMAR, here());
                    return NONE;
            }
        }

        private int readLetter(boolean ofParameter) {
            int number = (int) tokens.value(at);
            int mask = 1 << number;
            if (ofParameter) {
                parameterLetters |= mask;
            } else if ((parameterLetters & mask) == 0) {
                clash.tell(Fault.CLASH, here());
            }
            countLeaf();
            return types.letter(number);
        }

        private void countLeaf() {
            if (leafCount >= LEAF_LIMIT) {
                fault.tell(Fault.NUMBER, tokens.placeOf(at));
            }
            leafCount++;
            at++;
        }

        private void pushBase(int type) {
            if (baseCount < BASE_ROOM) {
                bases[baseCount] = type;
                baseCount++;
            }
        }

        private int popBase() {
            if (baseCount < 1) {
                return NONE;
            }
            baseCount--;
            return bases[baseCount];
        }

        private int readExpr(int depth) {
            if (depth > DEPTH_LIMIT) {
                fault.tell(Fault.DEPTH, here());
                return NONE;
            }
            switch (kind()) {
                case Tokens.LET:
                    return readLet(depth);
                case Tokens.IF:
                    return readIf(depth);
                case Tokens.FN:
                    return readFn(depth);
                default:
                    return readComparison(depth);
            }
        }

        private int readLet(int depth) {
            int place = here();
            at++;
            int nameAt = at;
            int local = readLocal();
            expect(Tokens.EQUALS);
            int bound = readExpr(depth + 1);
            table.setLocalBound(current, local, bound);
            expect(Tokens.IN);
            bind(tokens.value(nameAt), local);
            int body = readExpr(depth + 1);
            unbind();
            return tree.add(Tree.LET, place, bound, body, local);
        }

        private int readIf(int depth) {
            int place = here();
            at++;
            int condition = readExpr(depth + 1);
            expect(Tokens.THEN);
            int yes = readExpr(depth + 1);
            expect(Tokens.ELSE);
            int no = readExpr(depth + 1);
            return tree.add(Tree.IF, place, condition, yes, no);
        }

        private int readFn(int depth) {
            int place = here();
            at++;
            expect(Tokens.OPEN);
            int nameAt = at;
            int local = readLocal();
            expect(Tokens.COLON);
            table.setLocalType(current, local, readType(1, false));
            expect(Tokens.CLOSE);
            expect(Tokens.ARROW);
            bind(tokens.value(nameAt), local);
            int body = readExpr(depth + 1);
            unbind();
            int node = tree.add(Tree.FN, place, body, NONE, local);
            tree.setValue(node, current);
            return node;
        }

        private int readComparison(int depth) {
            int left = readSum(depth);
            if (kind() != Tokens.LESS) {
                return left;
            }
            int place = here();
            at++;
            int right = readSum(depth);
            return tree.add(Tree.LESS, place, left, right, NONE);
        }

        private int readSum(int depth) {
            int sum = readCall(depth);
            for (int signs = 0; signs <= SIGN_LIMIT && isSumSign(); signs++) {
                if (signs == SIGN_LIMIT) {
                    fault.tell(Fault.DEPTH, here());
                } else {
                    int kind = kind() == Tokens.PLUS ? Tree.PLUS : Tree.MINUS;
                    int place = here();
                    at++;
                    int right = readCall(depth);
                    sum = tree.add(kind, place, sum, right, NONE);
                }
            }
            return sum;
        }

        private int readCall(int depth) {
            if (kind() == Tokens.FST || kind() == Tokens.SND) {
                int part = kind() == Tokens.FST ? Tree.FST : Tree.SND;
                int place = here();
                at++;
                return tree.add(part, place, readAtom(depth), NONE, NONE);
            }
            boolean bare = kind() == Tokens.NAME;
            int head = readAtom(depth);
            if (!beginsAtom()) {
                return head;
            }
            if (bare && tree.kind(head) == Tree.NAME) {
                tree.turnInto(head, Tree.HEAD);
            }
            return readAtoms(head, depth);
        }

        private int readAtoms(int head, int depth) {
            int last = head;
            int count = 0;
            for (int turn = 0; turn <= ATOM_LIMIT && beginsAtom(); turn++) {
                if (turn == ATOM_LIMIT) {
                    fault.tell(Fault.DEPTH, here());
                } else {
                    int atom = readAtom(depth);
                    tree.chain(last, atom);
                    last = atom;
                    count++;
                }
            }
            return tree.add(Tree.CALL, tree.placeOf(head), head, NONE, count);
        }

        private int readAtom(int depth) {
            switch (kind()) {
                case Tokens.NUMBER:
                    return readLeafExpr(Tree.NUMBER, NONE);
                case Tokens.BITS:
                    return readLeafExpr(Tree.BITS, NONE);
                case Tokens.NAME:
                    int local = findLocal(tokens.value(at));
                    return readLeafExpr(local == NONE ? Tree.NAME : Tree.LOCAL, local);
                case Tokens.OPEN:
                    return readBrackets(depth);
                default:
                    fault.tell(Fault.GRAMMAR, here());
                    return NONE;
            }
        }

        private int readLeafExpr(int kind, int local) {
            int node = tree.add(kind, here(), local, NONE, NONE);
            tree.setValue(node, tokens.value(at));
            at++;
            return node;
        }

        private int readBrackets(int depth) {
            expect(Tokens.OPEN);
            int inner = readExpr(depth + 1);
            if (kind() == Tokens.COMMA) {
                int place = here();
                at++;
                int second = readExpr(depth + 1);
                inner = tree.add(Tree.PAIR, place, inner, second, NONE);
            }
            expect(Tokens.CLOSE);
            return inner;
        }

        private boolean beginsAtom() {
            int kind = kind();
            return kind == Tokens.NUMBER || kind == Tokens.BITS || kind == Tokens.NAME
                    || kind == Tokens.OPEN;
        }

        private boolean isSumSign() {
            return kind() == Tokens.PLUS || kind() == Tokens.MINUS;
        }

        private void bind(long name, int local) {
            if (scopeCount < scopeNames.length) {
                scopeNames[scopeCount] = name;
                scopeLocals[scopeCount] = local;
                scopeCount++;
            }
        }

        private void unbind() {
            scopeCount = Math.max(0, scopeCount - 1);
        }

        private int findLocal(long name) {
            for (int i = scopeCount - 1; i >= 0; i--) {
                if (scopeNames[i] == name) {
                    return scopeLocals[i];
                }
            }
            return NONE;
        }

        private int kind() {
            return fault.isTold() ? Tokens.END : tokens.kind(at);
        }

        private int here() {
            return tokens.placeOf(at);
        }

        private void expect(int kind) {
            if (kind() == kind) {
                at++;
            } else {
                fault.tell(Fault.GRAMMAR, here());
            }
        }
    }

    /** Gives every EXPR its TYPE, and counts what is to be adapted. */
    private static final class Checker {
        private static final int LEAF_LIMIT = 200;
        // A TYPE that is told has at most 100 leaves, so none lies deeper.
        private static final int DEPTH_LIMIT = 101;

        private final Types types;
        private final Tree tree;
        private final Table table;
        private final Fault fault;
        private int current;

        Checker(Types types, Tree tree, Table table, Fault fault) {
            this.types = types;
            this.tree = tree;
            this.table = table;
            this.fault = fault;
        }

        void checkAll() {
            int node = 0;
            for (int d = 0; d < table.size() && !fault.isTold(); d++) {
                current = d;
                for (; node < table.end(d) && !fault.isTold(); node++) {
                    checkNode(node);
                }
                if (tree.type(table.root(d)) != table.type(d)) {
                    fault.tell(Fault.TYPE, table.placeOf(d));
                }
            }
            if (!fault.isTold()) {
                countAll();
            }
        }

        private void checkNode(int node) {
            if (tree.kind(node) == Tree.NAME || tree.kind(node) == Tree.HEAD) {
                resolve(node);
            }
            // The NAME of a DEF with PARAMETERS is no EXPR and has no TYPE.
            if (fault.isTold() || tree.kind(node) == Tree.CALLEE) {
                return;
            }
            int type = typeOf(node);
            if (type == NONE || types.leaves(type) > LEAF_LIMIT) {
                fault.tell(Fault.TYPE, tree.placeOf(node));
            }
            tree.setType(node, type);
        }

        private void resolve(int node) {
            int d = table.find(tree.value(node));
            if (d == NONE) {
                fault.tell(Fault.UNKNOWN, tree.placeOf(node));
            } else if (table.parameters(d) == 0) {
                tree.turnInto(node, Tree.DEF_NAME);
            } else if (tree.kind(node) == Tree.HEAD) {
                tree.turnInto(node, Tree.CALLEE);
            } else {
                fault.tell(Fault.TYPE, tree.placeOf(node));
            }
            tree.setValue(node, d);
        }

        /** The TYPE of an EXPR whose parts have theirs; NONE if it has none. */
        private int typeOf(int node) {
            int first = tree.type(tree.first(node));
            int second = tree.type(tree.second(node));
            switch (tree.kind(node)) {
                case Tree.NUMBER:
                    return Types.LONG_TYPE;
                case Tree.BITS:
                    return Types.DOUBLE_TYPE;
                case Tree.LOCAL:
                    return typeOfLocal(tree.first(node));
                case Tree.DEF_NAME:
                    return table.type((int) tree.value(node));
                case Tree.LET:
                    return second;
                case Tree.IF:
                    return first == Types.LONG_TYPE && second == tree.type(tree.third(node))
                            ? second : NONE;
                case Tree.FN:
                    return types.make(Types.FUNCTION, typeOfLocal(tree.third(node)), first);
                case Tree.PLUS:
                case Tree.MINUS:
                case Tree.LESS:
                    return first == Types.LONG_TYPE && second == first ? first : NONE;
                case Tree.PAIR:
                    return types.make(Types.PAIR, first, second);
                case Tree.FST:
                    return types.kind(first) == Types.PAIR ? types.left(first) : NONE;
                case Tree.SND:
                    return types.kind(first) == Types.PAIR ? types.right(first) : NONE;
                case Tree.CALL:
                    return typeOfCall(node);
                default:
                    return NONE;
            }
        }

        private int typeOfLocal(int local) {
            int bound = table.localBound(current, local);
            return bound == NONE ? table.localType(current, local) : tree.type(bound);
        }

        private int typeOfCall(int node) {
            int head = tree.first(node);
            int type = tree.type(head);
            int atom = tree.next(tree.first(node));
            int atoms = tree.third(node);
            int taken = 0;
            if (tree.kind(head) == Tree.CALLEE) {
                int d = (int) tree.value(head);
                taken = table.parameters(d);
                if (atoms < taken || !fitAtoms(node, d)) {
                    return NONE;
                }
                tree.turnInto(node, Tree.DEF_CALL);
                tree.setValue(node, d);
                type = substitute(table.type(d), node, 0);
                for (int i = 0; i < taken; i++) {
                    atom = tree.next(atom);
                }
            }
            for (int i = taken; i < atoms; i++) {
                if (types.kind(type) != Types.FUNCTION || types.left(type) != tree.type(atom)) {
                    return NONE;
                }
                type = types.right(type);
                atom = tree.next(atom);
            }
            return type;
        }

        private boolean fitAtoms(int node, int d) {
            int atom = tree.next(tree.first(node));
            for (int i = 0; i < table.parameters(d); i++) {
                int pattern = table.localType(d, i);
                if (!fit(pattern, tree.type(atom), node, 0)) {
                    return false;
                }
                if (types.kind(pattern) == Types.LETTER && answersLetter(atom)) {
                    tree.markShort(atom);
                }
                atom = tree.next(atom);
            }
            return true;
        }

        /** Whether it is the CALL of a DEF with just its PARAMETERS whose TYPE is a LETTER. */
        private boolean answersLetter(int atom) {
            int d = (int) tree.value(atom);
            return tree.kind(atom) == Tree.DEF_CALL && tree.third(atom) == table.parameters(d)
                    && types.kind(table.type(d)) == Types.LETTER;
        }

        private boolean fit(int pattern, int type, int node, int depth) {
            if (depth > DEPTH_LIMIT || type == NONE) {
                return false;
            }
            if (types.letters(pattern) == 0) {
                return pattern == type;
            }
            if (types.kind(pattern) == Types.LETTER) {
                int letter = types.letterNumber(pattern);
                if (tree.fit(node, letter) == NONE) {
                    tree.setFit(node, letter, type);
                }
                return tree.fit(node, letter) == type;
            }
            return types.kind(pattern) == types.kind(type)
                    && fit(types.left(pattern), types.left(type), node, depth + 1)
                    && fit(types.right(pattern), types.right(type), node, depth + 1);
        }

        /** A DEF's TYPE with what fits the LETTERS at this CALL. */
        private int substitute(int type, int node, int depth) {
            if (depth > DEPTH_LIMIT) {
                return NONE;
            }
            if (types.letters(type) == 0) {
                return type;
            }
            if (types.kind(type) == Types.LETTER) {
                return tree.fit(node, types.letterNumber(type));
            }
            int left = substitute(types.left(type), node, depth + 1);
            int right = substitute(types.right(type), node, depth + 1);
            return types.make(types.kind(type), left, right);
        }

        /** Only now it is known of every result whether it goes a SHORT way. */
        private void countAll() {
            int node = 0;
            for (int d = 0; d < table.size(); d++) {
                for (; node < table.end(d); node++) {
                    if (tree.kind(node) == Tree.DEF_NAME) {
                        table.count(d, Table.CALLS, 1);
                    } else if (tree.kind(node) == Tree.DEF_CALL) {
                        countCall(d, node);
                    }
                }
            }
        }

        private void countCall(int d, int node) {
            int callee = (int) tree.value(node);
            int atom = tree.next(tree.first(node));
            table.count(d, Table.CALLS, 1);
            for (int i = 0; i < table.parameters(callee); i++) {
                if (tree.isShort(atom)) {
                    table.count(d, Table.SHORTS, 1);
                } else if (types.letters(table.localType(callee, i)) != 0) {
                    table.count(d, Table.ADAPTED, 1);
                }
                atom = tree.next(atom);
            }
            if (types.letters(table.type(callee)) != 0 && !tree.isShort(node)) {
                table.count(d, Table.RESULTS, 1);
            }
        }
    }

    /** What one run makes: pairs, functions, COVERS and BOXES, and the locals of its calls. */
    private static final class Heap {
        static final int PAIR = 0;
        static final int FUNCTION = 1;
        static final int LONG_BOX = 2;
        static final int DOUBLE_BOX = 3;
        static final int BOXING_COVER = 4;
        static final int OPENING_COVER = 5;

        private static final int LIMIT = 4000;
        private static final int LOCAL_LIMIT = 60000;
        private static final int KINDS = 6;

        private final int[] kinds;
        private final long[] firsts;
        private final long[] seconds;
        private final int[] sites;
        private final int[] made;
        private int count;
        private int opened;
        private final long[] locals;
        private int localCount;
        private boolean over;

        Heap() {
            kinds = new int[LIMIT];
            firsts = new long[LIMIT];
            seconds = new long[LIMIT];
            sites = new int[LIMIT];
            made = new int[KINDS];
            locals = new long[LOCAL_LIMIT];
        }

        void clear() {
            count = 0;
            opened = 0;
            localCount = 0;
            over = false;
            Arrays.fill(made, 0);
        }

        boolean isOver() {
            return over;
        }

        int madeOf(int kind) {
            return kind >= 0 && kind < KINDS ? made[kind] : 0;
        }

        int openedBoxes() {
            return opened;
        }

        long make(int kind, long first, long second, int site) {
            if (count >= LIMIT || kind < 0 || kind >= KINDS) {
                over = true;
                return NONE;
            }
            kinds[count] = kind;
            firsts[count] = first;
            seconds[count] = second;
            sites[count] = site;
            made[kind]++;
            count++;
            return count - 1;
        }

        long openBox(long box) {
            opened++;
            return box >= 0 && box < count ? firsts[(int) box] : 0;
        }

        int kind(long item) {
            return item >= 0 && item < count ? kinds[(int) item] : NONE;
        }

        long first(long item) {
            return item >= 0 && item < count ? firsts[(int) item] : 0;
        }

        long second(long item) {
            return item >= 0 && item < count ? seconds[(int) item] : 0;
        }

        int site(long item) {
            return item >= 0 && item < count ? sites[(int) item] : NONE;
        }

        /** Room for the locals of a call that begins; NONE when there would be too many. */
        int claim(int number) {
            if (localCount + number > LOCAL_LIMIT) {
                over = true;
                return NONE;
            }
            localCount += number;
            return localCount - number;
        }

        long local(int base, int i) {
            return hasLocal(base, i) ? locals[base + i] : 0;
        }

        void setLocal(int base, int i, long value) {
            if (hasLocal(base, i)) {
                locals[base + i] = value;
            }
        }

        private boolean hasLocal(int base, int i) {
            return base >= 0 && i >= 0 && i < localCount - base;
        }
    }

    /**
     * Boxes, opens and adapts values. A site is the CALL whose fits the LETTERS stand for;
     * without one (NONE) a value is boxed or opened wholly, by its own TYPE.
     */
    private static final class Adapter {
        // TYPES of 100 and then 200 leaves lie within one another, two tasks at each level.
        private static final int ROOM = 1000;
        // Each turn but those on the way down a TYPE makes something, and there are 4000.
        private static final int TURNS = 1000000;
        private static final int JOIN = -2;

        private final Types types;
        private final Tree tree;
        private final Heap heap;
        private final int[] taskTypes;
        private final int[] taskSites;
        private final long[] taskValues;
        private int tasks;
        private final long[] results;
        private int resultCount;

        Adapter(Types types, Tree tree, Heap heap) {
            this.types = types;
            this.tree = tree;
            this.heap = heap;
            taskTypes = new int[ROOM];
            taskSites = new int[ROOM];
            taskValues = new long[ROOM];
            results = new long[ROOM];
        }

        long adapt(long value, int type, int site, boolean boxing) {
            tasks = 0;
            resultCount = 0;
            addTask(type, site, value);
            for (int turn = 0; turn < TURNS && tasks > 0 && !heap.isOver(); turn++) {
                tasks--;
                doTask(taskTypes[tasks], taskSites[tasks], taskValues[tasks], boxing);
            }
            return popResult();
        }

        private void doTask(int type, int site, long value, boolean boxing) {
            if (type == JOIN) {
                long second = popResult();
                addResult(heap.make(Heap.PAIR, popResult(), second, NONE));
                return;
            }
            if (site != NONE && types.letters(type) == 0) {
                addResult(value);
                return;
            }
            switch (types.kind(type)) {
                case Types.LONG:
                    addResult(boxing ? heap.make(Heap.LONG_BOX, value, 0, NONE)
                            : heap.openBox(value));
                    return;
                case Types.DOUBLE:
                    addResult(boxing ? heap.make(Heap.DOUBLE_BOX, value, 0, NONE)
                            : heap.openBox(value));
                    return;
                case Types.PAIR:
                    addTask(JOIN, NONE, 0);
                    addTask(types.right(type), site, heap.second(value));
                    addTask(types.left(type), site, heap.first(value));
                    return;
                case Types.FUNCTION:
                    int cover = boxing ? Heap.BOXING_COVER : Heap.OPENING_COVER;
                    addResult(heap.make(cover, value, type, site));
                    return;
                default:
                    break;
            }
            int fit = tree.fit(site, types.letterNumber(type));
            if (fit == NONE) {
                addResult(value);
            } else {
                addTask(fit, NONE, value);
            }
        }

        private void addTask(int type, int site, long value) {
            if (tasks < ROOM) {
                taskTypes[tasks] = type;
                taskSites[tasks] = site;
                taskValues[tasks] = value;
                tasks++;
            }
        }

        private void addResult(long value) {
            if (resultCount < ROOM) {
                results[resultCount] = value;
                resultCount++;
            }
        }

        private long popResult() {
            if (resultCount < 1) {
                return 0;
            }
            resultCount--;
            return results[resultCount];
        }
    }

    /** EXPRS that are worked, and calls through COVERS, within one another. */
    private static final class Frames {
        private static final int LIMIT = 150;
        private static final int HELD = Table.PARAMETER_LIMIT;

        private final int[] nodes;
        private final int[] states;
        private final int[] bases;
        private final int[] atoms;
        private final int[] counts;
        private final long[] held;
        private int depth;
        private int deepest;

        Frames() {
            nodes = new int[LIMIT];
            states = new int[LIMIT];
            bases = new int[LIMIT];
            atoms = new int[LIMIT];
            counts = new int[LIMIT];
            held = new long[LIMIT * HELD];
        }

        void clear() {
            depth = 0;
            deepest = 0;
        }

        boolean isEmpty() {
            return depth == 0;
        }

        boolean isFull() {
            return depth >= LIMIT;
        }

        int deepest() {
            return deepest;
        }

        void push(int node, int base) {
            if (depth >= LIMIT) {
                return;
            }
            nodes[depth] = node;
            states[depth] = 0;
            bases[depth] = base;
            atoms[depth] = NONE;
            counts[depth] = 0;
            depth++;
            deepest = Math.max(deepest, depth);
        }

        void pop() {
            depth = Math.max(0, depth - 1);
        }

        int node() {
            return depth > 0 ? nodes[depth - 1] : NONE;
        }

        int state() {
            return depth > 0 ? states[depth - 1] : 0;
        }

        void setState(int state) {
            if (depth > 0) {
                states[depth - 1] = state;
            }
        }

        /** Where the locals of the call begin in which this is worked. */
        int base() {
            return depth > 0 ? bases[depth - 1] : 0;
        }

        /** The ATOM of a CALL that was worked last. */
        int atom() {
            return depth > 0 ? atoms[depth - 1] : NONE;
        }

        void setAtom(int atom) {
            if (depth > 0) {
                atoms[depth - 1] = atom;
            }
        }

        int heldCount() {
            return depth > 0 ? counts[depth - 1] : 0;
        }

        void hold(long value) {
            if (depth > 0 && counts[depth - 1] < HELD) {
                held[(depth - 1) * HELD + counts[depth - 1]] = value;
                counts[depth - 1]++;
            }
        }

        void dropHeld() {
            if (depth > 0) {
                counts[depth - 1] = 0;
            }
        }

        long held(int i) {
            return i >= 0 && i < heldCount() ? held[(depth - 1) * HELD + i] : 0;
        }
    }

    /** Runs a DEF, with frames of its own instead of Java's, so that depth is counted. */
    private static final class Machine {
        static final int COUNTS = 8;

        private static final int RUNNING = 0;
        private static final int WELL = 1;
        private static final int STEPS_OUT = 2;
        private static final int TOO_DEEP = 3;
        private static final int FULL = 4;

        private static final int ENTER = 0;
        private static final int APPLY = 1;
        private static final int RESUME = 2;

        private static final int BEGUN = 0;
        private static final int ONE = 1;
        private static final int TWO = 2;
        private static final int ARGUMENT = 3;
        private static final int BODY = 4;

        // 20000 ATOMS, each called through 150 COVERS, take three turns a call.
        private static final int TURNS = 20000000;

        private final Types types;
        private final Tree tree;
        private final Table table;
        private final Heap heap;
        private final Adapter adapter;
        private final Frames frames;
        private boolean boxing;
        private int limit;
        private int steps;
        private int coverCalls;
        private int ending;
        private int mode;
        private int target;
        private int base;
        private long callee;
        private long value;
        private int resultType;

        Machine(Types types, Tree tree, Table table) {
            this.types = types;
            this.tree = tree;
            this.table = table;
            heap = new Heap();
            adapter = new Adapter(types, tree, heap);
            frames = new Frames();
        }

        void forget() {
            heap.clear();
            frames.clear();
            steps = 0;
            coverCalls = 0;
            value = 0;
            ending = RUNNING;
        }

        int start(int d, long[] arguments, boolean boxes, int stepLimit) {
            forget();
            boxing = boxes;
            limit = stepLimit;
            resultType = table.type(d);
            base = heap.claim(table.locals(d));
            for (int i = 0; i < table.parameters(d) && i < arguments.length; i++) {
                heap.setLocal(base, i, arguments[i]);
            }
            goInto(table.root(d), base);
            for (int turn = 0; turn < TURNS && ending == RUNNING; turn++) {
                if (mode == ENTER) {
                    enter();
                } else if (mode == APPLY) {
                    applyCallee();
                } else if (frames.isEmpty()) {
                    ending = WELL;
                } else {
                    resume();
                }
                ending = heap.isOver() ? FULL : ending;
            }
            return ending;
        }

        int countOf(int what) {
            switch (what) {
                case 0:
                    return steps;
                case 1:
                    return heap.madeOf(Heap.LONG_BOX) + heap.madeOf(Heap.DOUBLE_BOX);
                case 2:
                    return heap.openedBoxes();
                case 3:
                    return heap.madeOf(Heap.BOXING_COVER) + heap.madeOf(Heap.OPENING_COVER);
                case 4:
                    return heap.madeOf(Heap.PAIR);
                case 5:
                    return heap.madeOf(Heap.FUNCTION);
                case 6:
                    return frames.deepest();
                default:
                    return coverCalls;
            }
        }

        int sortAt(int way) {
            int type = typeAt(way);
            switch (types.kind(type)) {
                case Types.LONG:
                    return 0;
                case Types.DOUBLE:
                    return 1;
                case Types.PAIR:
                    return 2;
                case Types.FUNCTION:
                    return 3;
                default:
                    return sortOfBox(type == NONE ? NONE : heap.kind(valueAt(way)));
            }
        }

        long wordAt(int way) {
            switch (sortAt(way)) {
                case 0:
                case 1:
                    return valueAt(way);
                case 4:
                case 5:
                    return heap.first(valueAt(way));
                default:
                    return 0;
            }
        }

        private static int sortOfBox(int kind) {
            if (kind == Heap.LONG_BOX) {
                return 4;
            }
            return kind == Heap.DOUBLE_BOX ? 5 : NONE;
        }

        private int typeAt(int way) {
            if (ending != WELL || way < 1) {
                return NONE;
            }
            int type = resultType;
            for (int bit = lengthOf(way) - 1; bit >= 0; bit--) {
                if (types.kind(type) != Types.PAIR) {
                    return NONE;
                }
                type = (way >>> bit & 1) == 0 ? types.left(type) : types.right(type);
            }
            return type;
        }

        private long valueAt(int way) {
            long found = value;
            for (int bit = lengthOf(way) - 1; bit >= 0; bit--) {
                found = (way >>> bit & 1) == 0 ? heap.first(found) : heap.second(found);
            }
            return found;
        }

        /** How many parts of pairs lie on a way: its bits behind the highest one. */
        private static int lengthOf(int way) {
            return 31 - Integer.numberOfLeadingZeros(way);
        }

        private void goInto(int node, int localBase) {
            target = node;
            base = localBase;
            mode = ENTER;
        }

        private void enter() {
            if (frames.isFull()) {
                ending = TOO_DEEP;
            } else if (steps >= limit) {
                ending = STEPS_OUT;
            } else {
                steps++;
                frames.push(target, base);
                mode = RESUME;
            }
        }

        private void finish(long answer) {
            value = answer;
            frames.pop();
            mode = RESUME;
        }

        private void workPart(int node, int nextState) {
            frames.setState(nextState);
            target = node;
            base = frames.base();
            mode = ENTER;
        }

        private void resume() {
            int node = frames.node();
            switch (tree.kind(node)) {
                case Tree.NUMBER:
                case Tree.BITS:
                    finish(tree.value(node));
                    return;
                case Tree.LOCAL:
                    finish(heap.local(frames.base(), tree.first(node)));
                    return;
                case Tree.FN:
                    finish(heap.make(Heap.FUNCTION, node, frames.base(), NONE));
                    return;
                case Tree.LET:
                    workLet(node);
                    return;
                case Tree.IF:
                    workIf(node);
                    return;
                case Tree.FST:
                case Tree.SND:
                    workHalf(node);
                    return;
                case Tree.CALL:
                case Tree.DEF_CALL:
                case Tree.DEF_NAME:
                    workCall(node);
                    return;
                case NONE:
                    leaveCover();
                    return;
                default:
                    workBoth(node);
            }
        }

        private void workLet(int node) {
            if (frames.state() == BEGUN) {
                workPart(tree.first(node), ONE);
            } else if (frames.state() == ONE) {
                heap.setLocal(frames.base(), tree.third(node), value);
                workPart(tree.second(node), TWO);
            } else {
                finish(value);
            }
        }

        private void workIf(int node) {
            if (frames.state() == BEGUN) {
                workPart(tree.first(node), ONE);
            } else if (frames.state() == ONE) {
                workPart(value != 0 ? tree.second(node) : tree.third(node), TWO);
            } else {
                finish(value);
            }
        }

        private void workHalf(int node) {
            if (frames.state() == BEGUN) {
                workPart(tree.first(node), ONE);
            } else {
                finish(tree.kind(node) == Tree.FST ? heap.first(value) : heap.second(value));
            }
        }

        private void workBoth(int node) {
            if (frames.state() == BEGUN) {
                workPart(tree.first(node), ONE);
            } else if (frames.state() == ONE) {
                frames.hold(value);
                workPart(tree.second(node), TWO);
            } else {
                finish(join(tree.kind(node), frames.held(0), value));
            }
        }

        private long join(int kind, long first, long second) {
            switch (kind) {
                case Tree.PLUS:
                    return first + second;
                case Tree.MINUS:
                    return first - second;
                case Tree.LESS:
                    return first < second ? 1 : 0;
                default:
                    return heap.make(Heap.PAIR, first, second, NONE);
            }
        }

        private void workCall(int node) {
            switch (frames.state()) {
                case BEGUN:
                    beginCall(node);
                    return;
                case ARGUMENT:
                    takeArgument(node);
                    return;
                case BODY:
                    takeResult(node);
                    return;
                case TWO:
                    callee = frames.held(0);
                    frames.setState(ONE);
                    mode = APPLY;
                    return;
                default:
                    goOnCalling();
            }
        }

        private void beginCall(int node) {
            frames.setAtom(tree.first(node));
            if (tree.kind(node) == Tree.CALL) {
                workPart(tree.first(node), ONE);
            } else if (tree.kind(node) == Tree.DEF_CALL) {
                workAtom(ARGUMENT);
            } else {
                callDef(node);
            }
        }

        private void workAtom(int nextState) {
            frames.setAtom(tree.next(frames.atom()));
            workPart(frames.atom(), nextState);
        }

        private void takeArgument(int node) {
            int d = (int) tree.value(node);
            int number = frames.heldCount();
            if (boxing && !tree.isShort(frames.atom())) {
                value = adapter.adapt(value, table.localType(d, number), node, true);
            }
            frames.hold(value);
            if (number + 1 < table.parameters(d)) {
                workAtom(ARGUMENT);
            } else {
                callDef(node);
            }
        }

        private void callDef(int node) {
            int d = (int) tree.value(node);
            int localBase = heap.claim(table.locals(d));
            for (int i = 0; i < frames.heldCount(); i++) {
                heap.setLocal(localBase, i, frames.held(i));
            }
            frames.setState(BODY);
            goInto(table.root(d), localBase);
        }

        private void takeResult(int node) {
            if (boxing && !tree.isShort(node)) {
                value = adapter.adapt(value, table.type((int) tree.value(node)), node, false);
            }
            frames.setState(ONE);
        }

        /** The value is a function for the ATOMS that are left, or else the result. */
        private void goOnCalling() {
            if (tree.next(frames.atom()) == NONE) {
                finish(value);
            } else {
                frames.dropHeld();
                frames.hold(value);
                workAtom(TWO);
            }
        }

        private void applyCallee() {
            int kind = heap.kind(callee);
            if (kind == Heap.BOXING_COVER || kind == Heap.OPENING_COVER) {
                enterCover(kind == Heap.BOXING_COVER);
            } else {
                enterFunction();
            }
        }

        private void enterFunction() {
            int fn = (int) heap.first(callee);
            int captured = (int) heap.second(callee);
            int number = table.locals((int) tree.value(fn));
            int localBase = heap.claim(number);
            for (int i = 0; i < number; i++) {
                heap.setLocal(localBase, i, heap.local(captured, i));
            }
            heap.setLocal(localBase, tree.third(fn), value);
            goInto(tree.first(fn), localBase);
        }

        private void enterCover(boolean forBoxing) {
            if (frames.isFull()) {
                ending = TOO_DEEP;
                return;
            }
            coverCalls++;
            frames.push(NONE, 0);
            frames.hold(callee);
            int argumentType = types.left((int) heap.second(callee));
            value = adapter.adapt(value, argumentType, heap.site(callee), !forBoxing);
            callee = heap.first(callee);
        }

        private void leaveCover() {
            long cover = frames.held(0);
            int type = types.right((int) heap.second(cover));
            boolean forBoxing = heap.kind(cover) == Heap.BOXING_COVER;
            finish(adapter.adapt(value, type, heap.site(cover), forBoxing));
        }
    }
}
