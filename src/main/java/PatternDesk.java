import java.util.Arrays;

/** Reads and checks terms with pattern unknowns, and solves equations between them. */
public final class PatternDesk {
    public static final int NONE = -1;

    private static final int MOST_BYTES = 240;
    private static final int BYTES_A_FEED = 20;
    private static final int MOST_CONSTANTS = 8;
    private static final int MOST_UNKNOWNS = 5;
    private static final int MOST_EQUATIONS = 4;
    private static final int MOST_ATOMS = 5;
    private static final int MOST_NAME_BYTES = 8;
    private static final int DEEPEST = 20;
    private static final int MOST_INK = 4000;

    // A type of five atoms has four arrows: no name takes more ARGs, no eta goes deeper.
    private static final int MOST_ARGUMENTS = 4;
    // Each narrowing drops an ARG, and five unknowns have at most twenty: 25 rows can be needed.
    private static final int MOST_ROWS = 32;
    // 240 bytes hold fewer than 400 nodes, and none stands twice on one way down through a solution:
    // the rows below are more than twice as long as any text can ask for.
    private static final int MOST_NODES = 1024;
    private static final int MOST_VARIABLES = 512;
    private static final int MOST_TYPES = 256;
    private static final int MOST_LINKS = 1024;
    private static final int MOST_PILED = 512;
    private static final int MOST_STEPS = 1000000;

    private static final int RIGHT = 0;
    private static final int FAULT = -2;
    private static final int WRONG = -3;
    private static final int SOLVED = 0;
    private static final int UNSOLVABLE = 1;

    private static final int AT_FAULT = 0;
    private static final int DECLARED_AGAIN = 1;
    private static final int MEANS_NOTHING = 2;
    private static final int OTHER_ARGUMENT = 3;
    private static final int OTHER_SIDES = 4;
    private static final int NO_PATTERN = 5;
    private static final int TOO_MANY = 6;

    private static final int END = 0;
    private static final int BAD = 1;
    private static final int NAME = 2;
    private static final int CON = 3;
    private static final int MET = 4;
    private static final int EQ = 5;
    private static final int ATOM_O = 6;
    private static final int ATOM_I = 7;
    private static final int ARROW = 8;
    // The kinds of the other signs follow in the order of SIGNS.
    private static final String SIGNS = "()\\:.;=";
    private static final int OPEN = 9;
    private static final int CLOSE = 10;
    private static final int BACKSLASH = 11;
    private static final int COLON = 12;
    private static final int POINT = 13;
    private static final int SEMICOLON = 14;
    private static final int EQUALS = 15;

    private static final int LAMBDA = 0;
    private static final int CONSTANT = 1;
    private static final int VARIABLE = 2;
    private static final int UNKNOWN = 3;

    private static final int TYPE_O = 0;
    private static final int TYPE_I = 1;

    // What the writer's pile holds: a whole term, an ARG, or the bracket behind one.
    private static final int WHOLE = 0;
    private static final int ARGUMENT = 1;
    private static final int BRACKET = 2;

    private final int[] tape;
    private int fed;
    private boolean hasText;
    private int solved;
    private int toldPlace;
    private int toldNumber;
    private final Tokens tokens;
    private final Grammar grammar;
    private final Checker checker;
    private final Solver solver;
    private final Writer writer;

    public PatternDesk() {
        tape = new int[MOST_BYTES];
        tokens = new Tokens();
        grammar = new Grammar(tokens);
        Types types = new Types();
        Terms terms = new Terms(types);
        checker = new Checker(tokens, types, terms);
        Levels levels = new Levels();
        Answers answers = new Answers(terms, levels);
        solver = new Solver(terms, levels, answers);
        writer = new Writer(checker, types, terms, levels, answers);
        solved = NONE;
        toldPlace = NONE;
        toldNumber = NONE;
    }

    public int feed(int a, int b, int c, int d, int e) {
        if (fed + BYTES_A_FEED > MOST_BYTES) {
            return NONE;
        }
        takeWord(a);
        takeWord(b);
        takeWord(c);
        takeWord(d);
        takeWord(e);
        return fed;
    }

    public int load(int n) {
        if (n < 0 || n > fed) {
            return NONE;
        }
        fed = 0;
        hasText = false;
        solved = NONE;
        toldPlace = NONE;
        toldNumber = NONE;
        tokens.read(tape, n);
        if (!grammar.accepts()) {
            toldPlace = grammar.place();
            toldNumber = AT_FAULT;
            return FAULT;
        }
        if (!checker.accepts()) {
            toldPlace = checker.place();
            toldNumber = checker.number();
            return WRONG;
        }
        hasText = true;
        return RIGHT;
    }

    public int told(int what) {
        if (what == 0) {
            return toldPlace;
        }
        return what == 1 ? toldNumber : NONE;
    }

    public int count(int what) {
        if (!hasText) {
            return NONE;
        }
        switch (what) {
            case 0:
                return checker.constants();
            case 1:
                return checker.unknowns();
            case 2:
                return checker.equations();
            default:
                return NONE;
        }
    }

    public int solve() {
        if (!hasText) {
            return NONE;
        }
        if (solved == NONE) {
            solved = solver.unifies(checker) ? SOLVED : UNSOLVABLE;
            if (solved == SOLVED) {
                writer.numberUnknowns();
            }
        }
        return solved;
    }

    public int fresh() {
        return hasSolution() ? writer.ownUnknowns() : NONE;
    }

    public int size(int k) {
        return hasSolution() ? writer.write(checker.unknownRoot(k)) : NONE;
    }

    public int letter(int k, int i) {
        return hasSolution() && writer.write(checker.unknownRoot(k)) >= 0 ? writer.byteAt(i) : NONE;
    }

    public int side(int k, int side) {
        return hasSolution() ? writer.write(checker.sideRoot(k, side)) : NONE;
    }

    public int sideLetter(int k, int side, int i) {
        return hasSolution() && writer.write(checker.sideRoot(k, side)) >= 0 ? writer.byteAt(i) : NONE;
    }

    private boolean hasSolution() {
        return hasText && solved == SOLVED;
    }

    private void takeWord(int word) {
        for (int shift = 24; shift >= 0; shift -= 8) {
            if (fed < tape.length) {
                tape[fed] = (word >>> shift) & 255;
                fed++;
            }
        }
    }

    /** The text's tokens; what lies behind one that is none is not looked at. */
    private static final class Tokens {
        private final int[] bytes;
        private final int[] kinds;
        private final int[] starts;
        private final int[] ends;
        private int length;
        private int total;

        Tokens() {
            bytes = new int[MOST_BYTES];
            kinds = new int[MOST_BYTES];
            starts = new int[MOST_BYTES];
            ends = new int[MOST_BYTES];
        }

        void read(int[] tape, int n) {
            length = Math.max(0, Math.min(n, Math.min(tape.length, bytes.length)));
            System.arraycopy(tape, 0, bytes, 0, length);
            total = 0;
            int at = 0;
            for (int turn = 0; turn < MOST_BYTES && at < length; turn++) {
                at = isBlank(bytes[at]) ? at + 1 : readToken(at);
            }
        }

        int kind(int token) {
            return token >= 0 && token < total ? kinds[token] : END;
        }

        int start(int token) {
            return token >= 0 && token < total ? starts[token] : length;
        }

        int nameLength(int token) {
            return token >= 0 && token < total ? ends[token] - starts[token] : 0;
        }

        int nameByte(int token, int i) {
            int at = token >= 0 && token < total ? starts[token] + i : NONE;
            return at >= 0 && at < length ? bytes[at] : NONE;
        }

        boolean sameName(int token, int other) {
            if (token < 0 || token >= total || other < 0 || other >= total) {
                return false;
            }
            int from = starts[token];
            int otherFrom = starts[other];
            boolean same = ends[token] - from == ends[other] - otherFrom;
            for (int i = 0; i < ends[token] - from && same; i++) {
                same = bytes[from + i] == bytes[otherFrom + i];
            }
            return same;
        }

        private int readToken(int start) {
            int end = start + 1;
            int kind = signAt(start);
            if (kind == ARROW) {
                end = start + 2;
            } else if (isLetter(bytes[start])) {
                end = wordEnd(start);
                kind = wordKind(start, end);
            }
            if (total < kinds.length) {
                kinds[total] = kind;
                starts[total] = start;
                ends[total] = end;
                total++;
            }
            return kind == BAD ? length : end;
        }

        private int signAt(int at) {
            int sign = at < length ? bytes[at] : NONE;
            if (sign == '-') {
                return at + 1 < length && bytes[at + 1] == '>' ? ARROW : BAD;
            }
            int place = sign >= 0 ? SIGNS.indexOf((char) sign) : NONE;
            return place >= 0 ? OPEN + place : BAD;
        }

        private int wordEnd(int start) {
            int end = start;
            for (int at = start; at < length && isWordByte(bytes[at]); at++) {
                end = at + 1;
            }
            return end;
        }

        private int wordKind(int start, int end) {
            if (end - start > MOST_NAME_BYTES) {
                return BAD;
            }
            if (spells(start, end, "con")) {
                return CON;
            }
            if (spells(start, end, "met")) {
                return MET;
            }
            if (spells(start, end, "eq")) {
                return EQ;
            }
            if (spells(start, end, "o")) {
                return ATOM_O;
            }
            return spells(start, end, "i") ? ATOM_I : NAME;
        }

        private boolean spells(int start, int end, String word) {
            boolean same = end - start == word.length() && end <= length;
            for (int i = 0; i < word.length() && same; i++) {
                same = bytes[start + i] == word.charAt(i);
            }
            return same;
        }

        private static boolean isBlank(int letter) {
            return letter == 9 || letter == 10 || letter == 13 || letter == 32;
        }

        private static boolean isLetter(int letter) {
            return letter >= 'a' && letter <= 'z' || letter >= 'A' && letter <= 'Z';
        }

        private static boolean isWordByte(int letter) {
            return isLetter(letter) || letter >= '0' && letter <= '9';
        }
    }

    /** Whether the tokens are a text; where they are none, it stops at the fault. */
    private static final class Grammar {
        private final Tokens tokens;
        private int at;

        Grammar(Tokens tokens) {
            this.tokens = tokens;
        }

        boolean accepts() {
            at = 0;
            boolean fine = true;
            for (int turn = 0; turn < MOST_BYTES && fine && tokens.kind(at) != END; turn++) {
                fine = item();
            }
            return fine;
        }

        int place() {
            return tokens.start(at);
        }

        private boolean takes(int kind) {
            if (tokens.kind(at) != kind) {
                return false;
            }
            at++;
            return true;
        }

        private boolean item() {
            if (takes(CON) || takes(MET)) {
                return takes(NAME) && takes(COLON) && type(0) && takes(SEMICOLON);
            }
            return takes(EQ) && term(0) && takes(EQUALS) && term(0) && takes(SEMICOLON);
        }

        private boolean type(int depth) {
            if (depth > DEEPEST || !atom(depth)) {
                return false;
            }
            return !takes(ARROW) || type(depth + 1);
        }

        private boolean atom(int depth) {
            if (takes(ATOM_O) || takes(ATOM_I)) {
                return true;
            }
            return takes(OPEN) && type(depth + 1) && takes(CLOSE);
        }

        private boolean term(int depth) {
            if (depth > DEEPEST) {
                return false;
            }
            if (takes(BACKSLASH)) {
                return takes(NAME) && takes(COLON) && type(depth + 1) && takes(POINT) && term(depth + 1);
            }
            return takes(NAME) && arguments(depth);
        }

        private boolean arguments(int depth) {
            boolean fine = true;
            boolean more = true;
            for (int turn = 0; turn < MOST_BYTES && fine && more; turn++) {
                if (takes(OPEN)) {
                    fine = term(depth + 1) && takes(CLOSE);
                } else {
                    more = takes(NAME);
                }
            }
            return fine;
        }
    }

    /** Each type has one number, so that types are the same when their numbers are. */
    private static final class Types {
        private final int[] from;
        private final int[] to;
        private int used;

        Types() {
            from = new int[MOST_TYPES];
            to = new int[MOST_TYPES];
            used = TYPE_I + 1;
        }

        void clear() {
            used = TYPE_I + 1;
        }

        boolean isArrow(int type) {
            return type > TYPE_I && type < used;
        }

        int from(int type) {
            return type > TYPE_I && type < used ? from[type] : NONE;
        }

        int to(int type) {
            return type > TYPE_I && type < used ? to[type] : NONE;
        }

        int arrow(int wanted, int left) {
            for (int type = TYPE_I + 1; type < used; type++) {
                if (from[type] == wanted && to[type] == left) {
                    return type;
                }
            }
            if (used >= MOST_TYPES) {
                return NONE;
            }
            from[used] = wanted;
            to[used] = left;
            used++;
            return used - 1;
        }
    }

    /** The declared names of one sort, as the tokens that declared them. */
    private static final class Names {
        private final int[] names;
        private final int[] types;
        private int used;

        Names(int most) {
            names = new int[most];
            types = new int[most];
        }

        void clear() {
            used = 0;
        }

        boolean isFull() {
            return used >= names.length;
        }

        int total() {
            return used;
        }

        void add(int name, int type) {
            if (used < names.length) {
                names[used] = name;
                types[used] = type;
                used++;
            }
        }

        int find(Tokens tokens, int name) {
            for (int k = 0; k < used; k++) {
                if (tokens.sameName(names[k], name)) {
                    return k;
                }
            }
            return NONE;
        }

        int name(int k) {
            return k >= 0 && k < used ? names[k] : NONE;
        }

        int type(int k) {
            return k >= 0 && k < used ? types[k] : NONE;
        }
    }

    /**
     * Long forms as nodes: a LAMBDA with its variable and body, or a head with its ARGs.
     * The ARGs of an UNKNOWN are plain VARIABLEs, since eta makes no difference there.
     */
    private static final class Terms {
        private final Types types;
        private final int[] kinds;
        private final int[] heads;
        private final int[] firsts;
        private final int[] nexts;
        private final int[] arities;
        private int nodes;
        private final int[] variableTypes;
        private int variables;

        Terms(Types types) {
            this.types = types;
            kinds = new int[MOST_NODES];
            heads = new int[MOST_NODES];
            firsts = new int[MOST_NODES];
            nexts = new int[MOST_NODES];
            arities = new int[MOST_NODES];
            variableTypes = new int[MOST_VARIABLES];
        }

        void clear() {
            nodes = 0;
            variables = 0;
        }

        int variable(int type) {
            if (variables >= MOST_VARIABLES) {
                return NONE;
            }
            variableTypes[variables] = type;
            variables++;
            return variables - 1;
        }

        int variableType(int variable) {
            return variable >= 0 && variable < variables ? variableTypes[variable] : NONE;
        }

        int node(int kind, int head) {
            if (nodes >= MOST_NODES) {
                return NONE;
            }
            kinds[nodes] = kind;
            heads[nodes] = head;
            firsts[nodes] = NONE;
            nexts[nodes] = NONE;
            arities[nodes] = 0;
            nodes++;
            return nodes - 1;
        }

        int lambda(int variable, int body) {
            int made = node(LAMBDA, variable);
            if (made >= 0) {
                firsts[made] = body;
            }
            return made;
        }

        void append(int node, int given) {
            if (node < 0 || node >= nodes || given < 0 || given >= nodes) {
                return;
            }
            int last = firsts[node];
            for (int turn = 1; turn < arities[node] && last >= 0 && nexts[last] >= 0; turn++) {
                last = nexts[last];
            }
            if (last >= 0) {
                nexts[last] = given;
            } else {
                firsts[node] = given;
            }
            arities[node]++;
        }

        int kind(int node) {
            return node >= 0 && node < nodes ? kinds[node] : NONE;
        }

        int head(int node) {
            return node >= 0 && node < nodes ? heads[node] : NONE;
        }

        int body(int node) {
            return node >= 0 && node < nodes ? firsts[node] : NONE;
        }

        int arity(int node) {
            return node >= 0 && node < nodes ? arities[node] : 0;
        }

        int argument(int node, int j) {
            int at = node >= 0 && node < nodes ? firsts[node] : NONE;
            for (int turn = 0; turn < j && at >= 0; turn++) {
                at = nexts[at];
            }
            return at;
        }

        boolean hasVariable(int node, int variable) {
            for (int j = 0; j < arity(node); j++) {
                if (head(argument(node, j)) == variable) {
                    return true;
                }
            }
            return false;
        }

        /** The long form of a head with ARGs, which still lacks those that left begins with. */
        private int complete(int node, int left, int depth) {
            int base = variables;
            int lacking = 0;
            int rest = left;
            for (int turn = 0; turn < MOST_ARGUMENTS && types.isArrow(rest); turn++) {
                variable(types.from(rest));
                rest = types.to(rest);
                lacking++;
            }
            for (int j = 0; j < lacking; j++) {
                int plain = node(VARIABLE, base + j);
                boolean longToo = kind(node) != UNKNOWN && depth < MOST_ARGUMENTS;
                append(node, longToo ? complete(plain, variableType(base + j), depth + 1) : plain);
            }
            int whole = node;
            for (int j = lacking - 1; j >= 0; j--) {
                whole = lambda(base + j, whole);
            }
            return whole;
        }

        /** The variable that a long form is but for eta, or NONE; by its type it is none of the binders. */
        private int asVariable(int node, int depth) {
            int inner = node;
            int bound = 0;
            for (int turn = 0; turn < MOST_ARGUMENTS && kind(inner) == LAMBDA; turn++) {
                inner = body(inner);
                bound++;
            }
            if (depth > MOST_ARGUMENTS || kind(inner) != VARIABLE || arity(inner) != bound) {
                return NONE;
            }
            int binder = node;
            for (int j = 0; j < bound; j++) {
                if (asVariable(argument(inner, j), depth + 1) != head(binder)) {
                    return NONE;
                }
                binder = body(binder);
            }
            return head(inner);
        }
    }

    /** Reads a text without a fault into long forms, up to the first thing that is wrong. */
    private static final class Checker {
        private final Tokens tokens;
        private final Types types;
        private final Terms terms;
        private final Names constants;
        private final Names unknowns;
        private final int[] unknownRoots;
        private final int[] sideRoots;
        private final int[] scopeNames;
        private final int[] scopeVariables;
        private int scoped;
        private int equations;
        private int at;
        private int lastType;
        private int place;
        private int number;

        Checker(Tokens tokens, Types types, Terms terms) {
            this.tokens = tokens;
            this.types = types;
            this.terms = terms;
            constants = new Names(MOST_CONSTANTS);
            unknowns = new Names(MOST_UNKNOWNS);
            unknownRoots = new int[MOST_UNKNOWNS];
            sideRoots = new int[2 * MOST_EQUATIONS];
            scopeNames = new int[DEEPEST + 1];
            scopeVariables = new int[DEEPEST + 1];
        }

        boolean accepts() {
            types.clear();
            terms.clear();
            constants.clear();
            unknowns.clear();
            scoped = 0;
            equations = 0;
            at = 0;
            boolean fine = true;
            for (int turn = 0; turn < MOST_BYTES && fine && tokens.kind(at) != END; turn++) {
                if (tokens.kind(at) == EQ) {
                    fine = equation();
                } else {
                    fine = declaration(tokens.kind(at) == CON ? constants : unknowns);
                }
            }
            for (int k = 0; k < unknowns.total() && k < unknownRoots.length; k++) {
                unknownRoots[k] = terms.complete(terms.node(UNKNOWN, k), unknowns.type(k), 0);
            }
            return fine;
        }

        int place() {
            return place;
        }

        int number() {
            return number;
        }

        int constants() {
            return constants.total();
        }

        int unknowns() {
            return unknowns.total();
        }

        int equations() {
            return equations;
        }

        int unknownRoot(int k) {
            return k >= 0 && k < unknowns.total() && k < unknownRoots.length ? unknownRoots[k] : NONE;
        }

        int sideRoot(int k, int side) {
            if (k < 0 || k >= equations || side < 0 || side > 1) {
                return NONE;
            }
            int at = 2 * k + side;
            return at < sideRoots.length ? sideRoots[at] : NONE;
        }

        int constantLength(int k) {
            return tokens.nameLength(constants.name(k));
        }

        int constantByte(int k, int i) {
            return tokens.nameByte(constants.name(k), i);
        }

        private boolean blame(int what, int token) {
            number = what;
            place = tokens.start(token);
            return false;
        }

        private boolean declaration(Names names) {
            int name = at + 1;
            if (names.isFull()) {
                return blame(TOO_MANY, name);
            }
            if (constants.find(tokens, name) >= 0 || unknowns.find(tokens, name) >= 0) {
                return blame(DECLARED_AGAIN, name);
            }
            int large = largeType();
            if (large >= 0) {
                return blame(TOO_MANY, large);
            }
            at += 3;
            names.add(name, type(0));
            at++;
            return true;
        }

        private boolean equation() {
            if (equations >= MOST_EQUATIONS) {
                return blame(TOO_MANY, at);
            }
            int large = largeType();
            if (large >= 0) {
                return blame(TOO_MANY, large);
            }
            at++;
            int left = term(0);
            if (left < 0) {
                return false;
            }
            int leftType = lastType;
            int sign = at;
            at++;
            int right = term(0);
            if (right < 0) {
                return false;
            }
            if (lastType != leftType) {
                return blame(OTHER_SIDES, sign);
            }
            at++;
            sideRoots[2 * equations] = left;
            sideRoots[2 * equations + 1] = right;
            equations++;
            return true;
        }

        /** The first token of the item's first TYPE with too many atoms: each begins behind a colon. */
        private int largeType() {
            int start = at;
            int atoms = 0;
            for (int token = at; token < MOST_BYTES && tokens.kind(token) != SEMICOLON; token++) {
                int kind = tokens.kind(token);
                if (kind == COLON) {
                    start = token + 1;
                    atoms = 0;
                }
                if (kind == ATOM_O || kind == ATOM_I) {
                    atoms++;
                }
                if (atoms > MOST_ATOMS) {
                    return start;
                }
            }
            return NONE;
        }

        private int type(int depth) {
            if (depth > DEEPEST) {
                return NONE;
            }
            int first = atom(depth);
            if (tokens.kind(at) != ARROW) {
                return first;
            }
            at++;
            return types.arrow(first, type(depth + 1));
        }

        private int atom(int depth) {
            int kind = tokens.kind(at);
            at++;
            if (kind != OPEN) {
                return kind == ATOM_O ? TYPE_O : TYPE_I;
            }
            int inside = type(depth + 1);
            at++;
            return inside;
        }

        private int term(int depth) {
            if (depth > DEEPEST) {
                return NONE;
            }
            return tokens.kind(at) == BACKSLASH ? abstraction(depth) : named(depth, true);
        }

        private int abstraction(int depth) {
            if (scoped >= scopeNames.length) {
                return NONE;
            }
            scopeNames[scoped] = at + 1;
            at += 3;
            int type = type(depth + 1);
            at++;
            int variable = terms.variable(type);
            scopeVariables[scoped] = variable;
            scoped++;
            int body = term(depth + 1);
            scoped--;
            if (body < 0) {
                return NONE;
            }
            lastType = types.arrow(type, lastType);
            return terms.lambda(variable, body);
        }

        private int named(int depth, boolean takesArguments) {
            int name = at;
            int node = meaning(name);
            if (node < 0) {
                blame(MEANS_NOTHING, name);
                return NONE;
            }
            at++;
            int left = lastType;
            boolean pattern = true;
            for (int turn = 0; turn < MOST_BYTES && takesArguments && beginsArgument(); turn++) {
                int start = at;
                int given = argument(depth);
                if (given < 0) {
                    return NONE;
                }
                if (types.from(left) != lastType) {
                    blame(OTHER_ARGUMENT, start);
                    return NONE;
                }
                left = types.to(left);
                pattern = gives(node, given) && pattern;
            }
            if (!pattern) {
                blame(NO_PATTERN, name);
                return NONE;
            }
            lastType = left;
            return terms.complete(node, left, 0);
        }

        private boolean beginsArgument() {
            return tokens.kind(at) == NAME || tokens.kind(at) == OPEN;
        }

        private int argument(int depth) {
            if (tokens.kind(at) == NAME) {
                return named(depth, false);
            }
            at++;
            int inside = term(depth + 1);
            at++;
            return inside;
        }

        /** A head for what the NAME means, its type in lastType. */
        private int meaning(int name) {
            for (int k = Math.min(scoped, scopeNames.length) - 1; k >= 0; k--) {
                if (tokens.sameName(scopeNames[k], name)) {
                    lastType = terms.variableType(scopeVariables[k]);
                    return terms.node(VARIABLE, scopeVariables[k]);
                }
            }
            int constant = constants.find(tokens, name);
            if (constant >= 0) {
                lastType = constants.type(constant);
                return terms.node(CONSTANT, constant);
            }
            int unknown = unknowns.find(tokens, name);
            if (unknown >= 0) {
                lastType = unknowns.type(unknown);
                return terms.node(UNKNOWN, unknown);
            }
            return NONE;
        }

        /** False when an unknown gets what is no variable, or one that it has. */
        private boolean gives(int node, int given) {
            if (terms.kind(node) != UNKNOWN) {
                terms.append(node, given);
                return true;
            }
            int variable = terms.asVariable(given, 0);
            if (variable < 0 || terms.hasVariable(node, variable)) {
                return false;
            }
            terms.append(node, terms.node(VARIABLE, variable));
            return true;
        }
    }

    /**
     * Chains that say at which level (how many \ are around its own) each variable is bound.
     * They are made and dropped as on a stack, so that long walks need little room.
     */
    private static final class Levels {
        private final int[] variables;
        private final int[] levels;
        private final int[] rests;
        private int used;

        Levels() {
            variables = new int[MOST_LINKS];
            levels = new int[MOST_LINKS];
            rests = new int[MOST_LINKS];
        }

        int mark() {
            return used;
        }

        void release(int mark) {
            used = Math.max(0, Math.min(mark, used));
        }

        int with(int chain, int variable, int level) {
            if (used >= MOST_LINKS) {
                return chain;
            }
            variables[used] = variable;
            levels[used] = level;
            rests[used] = chain;
            used++;
            return used - 1;
        }

        /** NONE for a variable that only stands where a narrowing has dropped it. */
        int of(int chain, int variable) {
            int link = chain;
            for (int turn = 0; turn < MOST_LINKS && link >= 0 && link < used; turn++) {
                if (variables[link] == variable) {
                    return levels[link];
                }
                link = rests[link];
            }
            return NONE;
        }

        int variableAt(int chain, int level) {
            int link = chain;
            for (int turn = 0; turn < MOST_LINKS && link >= 0 && link < used; turn++) {
                if (levels[link] == level) {
                    return variables[link];
                }
                link = rests[link];
            }
            return NONE;
        }
    }

    /**
     * What the unknowns are given: a node and, for each variable free in it, the ARG that it is.
     * Nothing is copied, so that solutions too long to be written take no room.
     */
    private static final class Answers {
        private final Terms terms;
        private final Levels levels;
        private final int[] bodies;
        private final int[] pairs;
        private final int[] pairVariables;
        private final int[] pairArguments;
        private int rows;
        private int node;
        private int chain;

        Answers(Terms terms, Levels levels) {
            this.terms = terms;
            this.levels = levels;
            bodies = new int[MOST_ROWS];
            pairs = new int[MOST_ROWS];
            pairVariables = new int[MOST_ROWS * MOST_ARGUMENTS];
            pairArguments = new int[MOST_ROWS * MOST_ARGUMENTS];
        }

        void clear(int unknowns) {
            rows = unknowns;
            Arrays.fill(bodies, NONE);
            Arrays.fill(pairs, 0);
        }

        int node() {
            return node;
        }

        int chain() {
            return chain;
        }

        int body(int unknown) {
            return unknown >= 0 && unknown < rows && unknown < MOST_ROWS ? bodies[unknown] : NONE;
        }

        /** Follows given unknowns up to a node that is none; node() and chain() tell it. */
        void settle(int start, int startChain) {
            node = start;
            chain = startChain;
            for (int turn = 0; turn < MOST_ROWS; turn++) {
                int next = terms.kind(node) == UNKNOWN ? body(terms.head(node)) : NONE;
                if (next < 0) {
                    return;
                }
                chain = inside(node, chain);
                node = next;
            }
        }

        /** The chain of the body of the given unknown at a node. */
        int inside(int call, int callChain) {
            int unknown = terms.head(call);
            int made = NONE;
            if (unknown < 0 || unknown >= MOST_ROWS) {
                return made;
            }
            for (int p = 0; p < pairs[unknown] && p < MOST_ARGUMENTS; p++) {
                int pair = unknown * MOST_ARGUMENTS + p;
                int actual = terms.head(terms.argument(call, pairArguments[pair]));
                made = levels.with(made, pairVariables[pair], levels.of(callChain, actual));
            }
            return made;
        }

        void bind(int unknown, int body) {
            if (unknown >= 0 && unknown < MOST_ROWS) {
                bodies[unknown] = body;
                pairs[unknown] = 0;
            }
        }

        void addPair(int unknown, int variable, int argument) {
            if (unknown < 0 || unknown >= MOST_ROWS || pairs[unknown] >= MOST_ARGUMENTS) {
                return;
            }
            int pair = unknown * MOST_ARGUMENTS + pairs[unknown];
            pairVariables[pair] = variable;
            pairArguments[pair] = argument;
            pairs[unknown]++;
        }

        /** Gives the unknown of a call a new one that has only the ARGs in the set kept. */
        void narrow(int call, int kept) {
            if (rows >= MOST_ROWS) {
                return;
            }
            int unknown = terms.head(call);
            int small = terms.node(UNKNOWN, rows);
            rows++;
            bind(unknown, small);
            for (int j = 0; j < terms.arity(call); j++) {
                if ((kept & (1 << j)) != 0) {
                    int variable = terms.head(terms.argument(call, j));
                    terms.append(small, terms.node(VARIABLE, variable));
                    addPair(unknown, variable, j);
                }
            }
        }
    }

    /** What is still to be done: a node or a pair of them, with chains, and the level they stand at. */
    private static final class Pile {
        private final int[] nodes;
        private final int[] chains;
        private final int[] others;
        private final int[] otherChains;
        private final int[] levels;
        private final int[] marks;
        private int used;

        Pile() {
            nodes = new int[MOST_PILED];
            chains = new int[MOST_PILED];
            others = new int[MOST_PILED];
            otherChains = new int[MOST_PILED];
            levels = new int[MOST_PILED];
            marks = new int[MOST_PILED];
        }

        void clear() {
            used = 0;
        }

        boolean isEmpty() {
            return used == 0;
        }

        void push(int node, int chain, int level, int mark) {
            pushPair(node, chain, NONE, NONE, level, mark);
        }

        void pushPair(int node, int chain, int other, int otherChain, int level, int mark) {
            if (used >= MOST_PILED) {
                return;
            }
            nodes[used] = node;
            chains[used] = chain;
            others[used] = other;
            otherChains[used] = otherChain;
            levels[used] = level;
            marks[used] = mark;
            used++;
        }

        /** Afterwards the row behind the top is the one taken, until the next push. */
        void pop() {
            used = Math.max(0, used - 1);
        }

        int node() {
            return used < MOST_PILED ? nodes[used] : NONE;
        }

        int chain() {
            return used < MOST_PILED ? chains[used] : NONE;
        }

        int other() {
            return used < MOST_PILED ? others[used] : NONE;
        }

        int otherChain() {
            return used < MOST_PILED ? otherChains[used] : NONE;
        }

        int level() {
            return used < MOST_PILED ? levels[used] : 0;
        }

        int mark() {
            return used < MOST_PILED ? marks[used] : 0;
        }
    }

    /** Pattern unification: pairs that must become the same are taken apart, unknowns given as they come. */
    private static final class Solver {
        // More than any set of ARGs, so that a given unknown is walked through at least once.
        private static final int NOT_SEEN = (1 << (MOST_ARGUMENTS + 1)) - 1;

        private final Terms terms;
        private final Levels levels;
        private final Answers answers;
        private final Pile pairs;
        private final Pile walk;
        private final int[] seen;
        private final int[] own;
        private int self;
        private int node;
        private int chain;
        private int other;
        private int otherChain;
        private int level;

        Solver(Terms terms, Levels levels, Answers answers) {
            this.terms = terms;
            this.levels = levels;
            this.answers = answers;
            pairs = new Pile();
            walk = new Pile();
            seen = new int[MOST_ROWS];
            own = new int[MOST_ARGUMENTS];
        }

        boolean unifies(Checker text) {
            answers.clear(text.unknowns());
            levels.release(0);
            pairs.clear();
            for (int k = text.equations() - 1; k >= 0; k--) {
                pairs.pushPair(text.sideRoot(k, 0), NONE, text.sideRoot(k, 1), NONE, 0, 0);
            }
            boolean fine = true;
            for (int turn = 0; turn < MOST_STEPS && fine && !pairs.isEmpty(); turn++) {
                fine = step();
            }
            return fine && pairs.isEmpty();
        }

        private boolean step() {
            takePair();
            if (isUnknown(node) && isUnknown(other) && terms.head(node) == terms.head(other)
                    && equalArguments() == allArguments(node)) {
                return true;
            }
            answers.settle(node, chain);
            node = answers.node();
            chain = answers.chain();
            answers.settle(other, otherChain);
            other = answers.node();
            otherChain = answers.chain();
            if (isUnknown(node) && isUnknown(other) && terms.head(node) == terms.head(other)) {
                meet();
                return true;
            }
            if (isUnknown(node)) {
                return give();
            }
            if (isUnknown(other)) {
                swap();
                return give();
            }
            return takeApart();
        }

        private void takePair() {
            pairs.pop();
            levels.release(pairs.mark());
            node = pairs.node();
            chain = pairs.chain();
            other = pairs.other();
            otherChain = pairs.otherChain();
            level = pairs.level();
            for (int turn = 0; turn < MOST_NODES && terms.kind(node) == LAMBDA && terms.kind(other) == LAMBDA; turn++) {
                chain = levels.with(chain, terms.head(node), level);
                otherChain = levels.with(otherChain, terms.head(other), level);
                node = terms.body(node);
                other = terms.body(other);
                level++;
            }
        }

        private void swap() {
            int kept = node;
            node = other;
            other = kept;
            kept = chain;
            chain = otherChain;
            otherChain = kept;
        }

        private boolean isUnknown(int at) {
            return terms.kind(at) == UNKNOWN;
        }

        private int allArguments(int call) {
            return (1 << terms.arity(call)) - 1;
        }

        /** The set of places at which both calls have the same variable. */
        private int equalArguments() {
            int equal = 0;
            for (int j = 0; j < terms.arity(node) && j < MOST_ARGUMENTS; j++) {
                int left = levels.of(chain, terms.head(terms.argument(node, j)));
                int right = levels.of(otherChain, terms.head(terms.argument(other, j)));
                equal |= left == right ? 1 << j : 0;
            }
            return equal;
        }

        /** An open unknown that is the same for two rows of variables has only those where they agree. */
        private void meet() {
            int kept = equalArguments();
            if (kept != allArguments(node)) {
                answers.narrow(node, kept);
            }
        }

        private boolean takeApart() {
            if (terms.kind(node) != terms.kind(other) || terms.arity(node) != terms.arity(other)) {
                return false;
            }
            boolean same = terms.head(node) == terms.head(other);
            if (terms.kind(node) == VARIABLE) {
                same = levels.of(chain, terms.head(node)) == levels.of(otherChain, terms.head(other));
            }
            for (int j = terms.arity(node) - 1; j >= 0 && same; j--) {
                pairs.pushPair(terms.argument(node, j), chain, terms.argument(other, j), otherChain, level, levels.mark());
            }
            return same;
        }

        /** Gives the open unknown at node the other side, when that can do with its variables. */
        private boolean give() {
            self = terms.head(node);
            Arrays.fill(seen, NOT_SEEN);
            Arrays.fill(own, NONE);
            for (int j = 0; j < terms.arity(node) && j < own.length; j++) {
                own[j] = levels.of(chain, terms.head(terms.argument(node, j)));
            }
            walk.clear();
            walk.push(other, otherChain, level, levels.mark());
            boolean fine = true;
            for (int turn = 0; turn < MOST_STEPS && fine && !walk.isEmpty(); turn++) {
                fine = fitStep();
            }
            if (!fine) {
                return false;
            }
            answers.bind(self, other);
            for (int j = 0; j < terms.arity(node) && j < own.length; j++) {
                int variable = own[j] >= 0 ? levels.variableAt(otherChain, own[j]) : NONE;
                if (variable >= 0) {
                    answers.addPair(self, variable, j);
                }
            }
            return true;
        }

        private boolean fitStep() {
            walk.pop();
            levels.release(walk.mark());
            int at = walk.node();
            int atChain = walk.chain();
            int atLevel = walk.level();
            for (int turn = 0; turn < MOST_NODES && terms.kind(at) == LAMBDA; turn++) {
                atChain = levels.with(atChain, terms.head(at), atLevel);
                at = terms.body(at);
                atLevel++;
            }
            if (isUnknown(at)) {
                return fitUnknown(at, atChain, atLevel);
            }
            if (terms.kind(at) == VARIABLE && !isAllowed(levels.of(atChain, terms.head(at)))) {
                return false;
            }
            for (int j = terms.arity(at) - 1; j >= 0; j--) {
                walk.push(terms.argument(at, j), atChain, atLevel, levels.mark());
            }
            return true;
        }

        private boolean fitUnknown(int at, int atChain, int atLevel) {
            int unknown = terms.head(at);
            if (unknown == self || unknown < 0 || unknown >= seen.length) {
                return false;
            }
            int kept = allowedArguments(at, atChain);
            int body = answers.body(unknown);
            if (body < 0) {
                if (kept != allArguments(at)) {
                    answers.narrow(at, kept);
                }
                return true;
            }
            // What an earlier walk through it forbade is gone from it: only more of it asks for another.
            if ((seen[unknown] & kept) != seen[unknown]) {
                seen[unknown] &= kept;
                walk.push(body, answers.inside(at, atChain), atLevel, levels.mark());
            }
            return true;
        }

        private int allowedArguments(int at, int atChain) {
            int allowed = 0;
            for (int j = 0; j < terms.arity(at) && j < MOST_ARGUMENTS; j++) {
                int variable = terms.head(terms.argument(at, j));
                allowed |= isAllowed(levels.of(atChain, variable)) ? 1 << j : 0;
            }
            return allowed;
        }

        /** Variables bound inside of what is given are allowed, and those that the unknown stands before. */
        private boolean isAllowed(int at) {
            boolean allowed = at >= level;
            for (int j = 0; j < own.length; j++) {
                allowed |= at >= 0 && own[j] == at;
            }
            return allowed;
        }
    }

    /** Numbers the unknowns of the solution, and writes one term at a time. */
    private static final class Writer {
        private final Checker text;
        private final Types types;
        private final Terms terms;
        private final Levels levels;
        private final Answers answers;
        private final Pile pile;
        private final int[] numbers;
        private final int[] orders;
        private int numbered;
        private final int[] ink;
        private int inked;
        private int inkRoot;

        Writer(Checker text, Types types, Terms terms, Levels levels, Answers answers) {
            this.text = text;
            this.types = types;
            this.terms = terms;
            this.levels = levels;
            this.answers = answers;
            pile = new Pile();
            numbers = new int[MOST_ROWS];
            orders = new int[MOST_ROWS * MOST_ARGUMENTS];
            ink = new int[MOST_INK];
            inkRoot = NONE;
        }

        int ownUnknowns() {
            return numbered;
        }

        int byteAt(int i) {
            return i >= 0 && i < inked && i < ink.length ? ink[i] : NONE;
        }

        /** How many bytes there are, NONE for more than may be asked for: there it stops soon. */
        int write(int root) {
            if (root < 0) {
                return NONE;
            }
            if (root != inkRoot) {
                inkRoot = root;
                inked = 0;
                levels.release(0);
                pile.clear();
                pile.pushPair(root, NONE, WHOLE, NONE, 0, 0);
            }
            for (int turn = 0; turn < MOST_STEPS && inked <= MOST_INK && !pile.isEmpty(); turn++) {
                writeStep();
            }
            return inked <= MOST_INK ? inked : NONE;
        }

        /** Reads all solutions in their order; a given unknown read once holds nothing new. */
        void numberUnknowns() {
            inkRoot = NONE;
            numbered = 0;
            Arrays.fill(numbers, NONE);
            levels.release(0);
            pile.clear();
            for (int k = text.unknowns() - 1; k >= 0; k--) {
                pile.push(text.unknownRoot(k), NONE, 0, 0);
            }
            for (int turn = 0; turn < MOST_STEPS && !pile.isEmpty(); turn++) {
                numberStep();
            }
        }

        private void numberStep() {
            pile.pop();
            levels.release(pile.mark());
            int at = pile.node();
            int atChain = pile.chain();
            int atLevel = pile.level();
            for (int turn = 0; turn < MOST_NODES && terms.kind(at) == LAMBDA; turn++) {
                atChain = levels.with(atChain, terms.head(at), atLevel);
                at = terms.body(at);
                atLevel++;
            }
            if (terms.kind(at) != UNKNOWN) {
                for (int j = terms.arity(at) - 1; j >= 0; j--) {
                    pile.push(terms.argument(at, j), atChain, atLevel, levels.mark());
                }
                return;
            }
            int unknown = terms.head(at);
            if (unknown < 0 || unknown >= numbers.length || numbers[unknown] >= 0) {
                return;
            }
            int body = answers.body(unknown);
            if (body >= 0) {
                numbers[unknown] = 0;
                pile.push(body, answers.inside(at, atChain), atLevel, levels.mark());
                return;
            }
            numbers[unknown] = numbered;
            numbered++;
            orderArguments(at, atChain);
        }

        private void orderArguments(int call, int callChain) {
            int base = terms.head(call) * MOST_ARGUMENTS;
            int total = terms.arity(call);
            if (base < 0 || base + total > orders.length) {
                return;
            }
            for (int j = 0; j < total; j++) {
                int own = argumentLevel(call, callChain, j);
                int place = base;
                for (int other = 0; other < total; other++) {
                    place += argumentLevel(call, callChain, other) < own ? 1 : 0;
                }
                orders[place] = j;
            }
        }

        private int argumentLevel(int call, int callChain, int j) {
            return levels.of(callChain, terms.head(terms.argument(call, j)));
        }

        private void writeStep() {
            pile.pop();
            levels.release(pile.mark());
            if (pile.other() == BRACKET) {
                put(')');
                return;
            }
            int at = pile.node();
            int atChain = pile.chain();
            int atLevel = pile.level();
            if (pile.other() == ARGUMENT) {
                answers.settle(at, atChain);
                at = answers.node();
                atChain = answers.chain();
                beginArgument(at);
            }
            for (int turn = 0; turn < MOST_NODES && terms.kind(at) == LAMBDA; turn++) {
                putBinder(atLevel);
                atChain = levels.with(atChain, terms.head(at), atLevel);
                at = terms.body(at);
                atLevel++;
            }
            answers.settle(at, atChain);
            at = answers.node();
            atChain = answers.chain();
            if (terms.kind(at) == UNKNOWN) {
                putUnknown(at, atChain, atLevel);
                return;
            }
            putHead(at, atChain);
            for (int j = terms.arity(at) - 1; j >= 0; j--) {
                pile.pushPair(terms.argument(at, j), atChain, ARGUMENT, NONE, atLevel, levels.mark());
            }
        }

        private void beginArgument(int at) {
            put(' ');
            if (terms.kind(at) == LAMBDA || terms.arity(at) > 0) {
                put('(');
                pile.pushPair(NONE, NONE, BRACKET, NONE, 0, levels.mark());
            }
        }

        private void putHead(int at, int atChain) {
            int head = terms.head(at);
            if (terms.kind(at) == VARIABLE) {
                put('x');
                putNumber(levels.of(atChain, head));
                return;
            }
            for (int i = 0; i < MOST_NAME_BYTES && i < text.constantLength(head); i++) {
                put(text.constantByte(head, i));
            }
        }

        private void putUnknown(int call, int callChain, int around) {
            int unknown = terms.head(call);
            if (unknown < 0 || unknown >= numbers.length) {
                return;
            }
            put('h');
            putNumber(numbers[unknown]);
            for (int p = 0; p < terms.arity(call) && p < MOST_ARGUMENTS; p++) {
                int given = terms.head(terms.argument(call, orders[unknown * MOST_ARGUMENTS + p]));
                putVariable(levels.of(callChain, given), terms.variableType(given), around, 0);
            }
        }

        /** A variable as an ARG, in its long form. */
        private void putVariable(int name, int type, int around, int depth) {
            boolean isFunction = types.isArrow(type) && depth <= MOST_ARGUMENTS;
            put(' ');
            if (isFunction) {
                put('(');
            }
            int inside = around;
            int rest = type;
            for (int turn = 0; turn < MOST_ARGUMENTS && isFunction && types.isArrow(rest); turn++) {
                putBinder(inside);
                inside++;
                rest = types.to(rest);
            }
            put('x');
            putNumber(name);
            rest = type;
            for (int bound = around; bound < inside; bound++) {
                putVariable(bound, types.from(rest), inside, depth + 1);
                rest = types.to(rest);
            }
            if (isFunction) {
                put(')');
            }
        }

        private void putBinder(int atLevel) {
            put('\\');
            put('x');
            putNumber(atLevel);
            put('.');
        }

        private void putNumber(int number) {
            int unit = 1;
            for (int turn = 0; turn < 8 && unit * 10 <= number; turn++) {
                unit *= 10;
            }
            for (int turn = 0; turn < 10 && unit > 0; turn++) {
                put('0' + number / unit % 10);
                unit /= 10;
            }
        }

        private void put(int letter) {
            if (inked < ink.length) {
                ink[inked] = letter;
            }
            inked++;
        }
    }
}
