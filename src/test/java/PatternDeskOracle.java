import java.util.ArrayDeque;
import java.util.ArrayList;
import java.util.Collections;
import java.util.Deque;
import java.util.HashMap;
import java.util.List;
import java.util.Map;
import java.util.Random;

/**
 * Made-up texts, right and wrong, answered by the program and by a second one that is naive:
 * a table-driven reader, and a solver that puts all solutions in and starts anew after each step.
 */
public final class PatternDeskOracle {
    private static final int TEXTS = 30000;
    private static final int NONE = PatternDesk.NONE;
    private static int wrong = 0;
    private static final int[] seen = new int[12];
    private static Desk desk = new Desk();

    public static void main(String[] args) {
        int texts = args.length > 0 ? Integer.parseInt(args[0]) : TEXTS;
        long seed = args.length > 1 ? Long.parseLong(args[1]) : 1;
        Random random = new Random(seed);
        for (int n = 0; n < texts && wrong < 20; n++) {
            compare(new Maker(random).text());
        }
        System.out.println("faults " + seen[0] + ", wrong by number " + seen[1] + " " + seen[2] + " " + seen[3] + " "
                + seen[4] + " " + seen[5] + " " + seen[6] + ", without unifier " + seen[7] + ", solved " + seen[8]
                + " (" + seen[9] + " with unknowns of their own, " + seen[10] + " with a solution too long), passed over "
                + seen[11]);
        for (int k = 0; k <= 9; k++) {
            if (args.length == 0 && seen[k] < 50) {
                System.out.println("too few texts of sort " + k);
                wrong++;
            }
        }
        System.exit(wrong == 0 ? 0 : 1);
    }

    private static void due(String text, String call, Object got, Object want) {
        if (!got.equals(want)) {
            wrong++;
            System.out.println(call + " answered " + got + ", due is " + want + ": " + text);
        }
    }

    private static void compare(String text) {
        if (text.length() > 240) {
            return;
        }
        keepCalls(40);
        int loaded = load(desk, text);
        Reading reading = new Reading(text);
        try {
            reading.read();
        } catch (Told told) {
            seen[told.number]++;
            due(text, "load", loaded, told.number == 0 ? -2 : -3);
            due(text, "told(0)", desk.told(0), told.place);
            due(text, "told(1)", desk.told(1), told.number);
            due(text, "solve()", desk.solve(), NONE);
            return;
        }
        due(text, "load", loaded, 0);
        due(text, "told(0)", desk.told(0), NONE);
        due(text, "count(0)", desk.count(0), reading.constants.size());
        due(text, "count(1)", desk.count(1), reading.unknowns.size());
        due(text, "count(2)", desk.count(2), reading.sides.size() / 2);
        if (loaded == 0) {
            compareSolutions(text, reading);
        }
    }

    /** One object is used for one text after the other: what an earlier text left behind would show. */
    private static boolean keepCalls(int calls) {
        if (desk.calls() + calls <= Desk.MOST_CALLS) {
            return true;
        }
        desk = new Desk();
        return false;
    }

    private static void compareSolutions(String text, Reading reading) {
        int answer = desk.solve();
        Solving solving = new Solving(reading);
        try {
            boolean solved = solving.solve();
            due(text, "solve()", answer, solved ? 0 : 1);
            seen[solved ? 8 : 7]++;
            if (!solved) {
                due(text, "fresh()", desk.fresh(), NONE);
                due(text, "size(0)", desk.size(0), NONE);
                due(text, "side(0, 0)", desk.side(0, 0), NONE);
                return;
            }
            Writing writing = new Writing(solving);
            due(text, "fresh()", desk.fresh(), writing.numbers.size());
            seen[9] += writing.numbers.isEmpty() ? 0 : 1;
            Asking asking = new Asking(text);
            for (int k = 0; k < reading.unknowns.size(); k++) {
                String want = writing.write(Solving.longForm(reading.unknowns.get(k)));
                seen[10] += want.length() > 4000 ? 1 : 0;
                due(text, "solution " + k, asking.solution(k), want.length() > 4000 ? "too long" : want);
            }
            for (int k = 0; k < reading.sides.size(); k++) {
                String want = writing.write(reading.sides.get(k));
                due(text, "side " + k, asking.written(k / 2, k % 2), want.length() > 4000 ? "too long" : want);
            }
        } catch (TooBig e) {
            seen[11]++;
        }
    }

    private static int word(String text, int at) {
        int made = 0;
        for (int i = at; i < at + 4; i++) {
            made = made << 8 | (i < text.length() ? text.charAt(i) & 255 : 32);
        }
        return made;
    }

    private static int load(Desk desk, String text) {
        for (int at = 0; at < text.length(); at += 20) {
            desk.feed(word(text, at), word(text, at + 4), word(text, at + 8), word(text, at + 12), word(text, at + 16));
        }
        return desk.load(text.length());
    }

    /** Asks for whole texts, on a new object when the calls of one are used up. */
    private static final class Asking {
        private final String text;

        Asking(String text) {
            this.text = text;
        }

        private void called() {
            if (!keepCalls(1)) {
                load(desk, text);
                desk.solve();
            }
        }

        String solution(int k) {
            called();
            int size = desk.size(k);
            StringBuilder made = new StringBuilder();
            for (int i = 0; i < size; i++) {
                called();
                made.append((char) desk.letter(k, i));
            }
            called();
            due(text, "letter behind", desk.letter(k, Math.max(0, size)), NONE);
            return size == NONE ? "too long" : made.toString();
        }

        String written(int k, int side) {
            called();
            int size = desk.side(k, side);
            StringBuilder made = new StringBuilder();
            for (int i = 0; i < size; i++) {
                called();
                made.append((char) desk.sideLetter(k, side, i));
            }
            called();
            due(text, "sideLetter behind", desk.sideLetter(k, side, Math.max(0, size)), NONE);
            return size == NONE ? "too long" : made.toString();
        }
    }

    private static final class Told extends RuntimeException {
        private static final long serialVersionUID = 1;
        final int number;
        final int place;

        Told(int number, int place) {
            super(null, null, false, false);
            this.number = number;
            this.place = place;
        }
    }

    private static final class TooBig extends RuntimeException {
        private static final long serialVersionUID = 1;
    }

    // ---- types and terms

    private record Type(String atom, Type from, Type to) {
        static final Type O = new Type("o", null, null);
        static final Type I = new Type("i", null, null);

        static Type arrow(Type from, Type to) {
            return new Type(null, from, to);
        }

        int atoms() {
            return atom != null ? 1 : from.atoms() + to.atoms();
        }

        String text() {
            if (atom != null) {
                return atom;
            }
            return (from.atom != null ? from.text() : "(" + from.text() + ")") + "->" + to.text();
        }

        Type result() {
            return atom != null ? this : to.result();
        }
    }

    private static class Head {
        final String name;
        final Type type;

        Head(String name, Type type) {
            this.name = name;
            this.type = type;
        }
    }

    private static final class Constant extends Head {
        Constant(String name, Type type) {
            super(name, type);
        }
    }

    private static final class Variable extends Head {
        Variable(String name, Type type) {
            super(name, type);
        }
    }

    private static final class Unknown extends Head {
        Term solution;

        Unknown(String name, Type type) {
            super(name, type);
        }
    }

    /** Either bound and body are set, or head and arguments. */
    private static final class Term {
        Variable bound;
        Term body;
        Head head;
        List<Term> arguments;

        static Term lambda(Variable bound, Term body) {
            Term made = new Term();
            made.bound = bound;
            made.body = body;
            return made;
        }

        static Term call(Head head, List<Term> arguments) {
            Term made = new Term();
            made.head = head;
            made.arguments = arguments;
            return made;
        }
    }

    private static Term eta(Head head, List<Term> arguments, Type left) {
        if (left.atom != null) {
            return Term.call(head, arguments);
        }
        Variable fresh = new Variable("y", left.from);
        List<Term> more = new ArrayList<>(arguments);
        more.add(eta(fresh, List.of(), left.from));
        return Term.lambda(fresh, eta(head, more, left.to));
    }

    /** Puts terms in for variables, and solutions for unknowns that have one; what comes is long again. */
    private static Term put(Term term, Map<Variable, Term> terms, int[] budget) {
        if (--budget[0] < 0) {
            throw new TooBig();
        }
        if (term.bound != null) {
            Variable fresh = new Variable(term.bound.name, term.bound.type);
            Map<Variable, Term> more = new HashMap<>(terms);
            more.put(term.bound, eta(fresh, List.of(), fresh.type));
            return Term.lambda(fresh, put(term.body, more, budget));
        }
        List<Term> arguments = new ArrayList<>();
        for (Term argument : term.arguments) {
            arguments.add(put(argument, terms, budget));
        }
        Term instead = term.head instanceof Variable variable ? terms.get(variable) : null;
        if (term.head instanceof Unknown unknown) {
            instead = unknown.solution;
        }
        if (instead == null) {
            return Term.call(term.head, arguments);
        }
        Map<Variable, Term> given = new HashMap<>();
        for (Term argument : arguments) {
            given.put(instead.bound, argument);
            instead = instead.body;
        }
        // The variable of an eta-expanded name has itself for its solution: its ARGs are put in, no more.
        if (term.head instanceof Variable && given.isEmpty()) {
            return instead;
        }
        return put(instead, given, budget);
    }

    private static Term whole(Term term) {
        return put(term, Map.of(), new int[] {300000});
    }

    private static boolean same(Term left, Term right, Map<Variable, Variable> renamed) {
        if ((left.bound == null) != (right.bound == null)) {
            return false;
        }
        if (left.bound != null) {
            Map<Variable, Variable> more = new HashMap<>(renamed);
            more.put(right.bound, left.bound);
            return same(left.body, right.body, more);
        }
        Head head = right.head instanceof Variable v && renamed.containsKey(v) ? renamed.get(v) : right.head;
        boolean same = left.head == head && left.arguments.size() == right.arguments.size();
        for (int j = 0; same && j < left.arguments.size(); j++) {
            same = same(left.arguments.get(j), right.arguments.get(j), renamed);
        }
        return same;
    }

    /** The variable that a long form is but for eta, or null. */
    private static Variable asVariable(Term term) {
        Term inner = term;
        while (inner.bound != null) {
            inner = inner.body;
        }
        if (!(inner.head instanceof Variable variable)) {
            return null;
        }
        return same(eta(variable, List.of(), variable.type), term, Map.of()) ? variable : null;
    }

    // ---- reading

    private record Token(String text, int place) {
    }

    private static final class Reading {
        final String text;
        final List<Token> tokens = new ArrayList<>();
        final List<Constant> constants = new ArrayList<>();
        final List<Unknown> unknowns = new ArrayList<>();
        final List<Term> sides = new ArrayList<>();
        private int at = 0;

        Reading(String text) {
            this.text = text;
        }

        void read() {
            split();
            predict();
            while (!peek().equals("$")) {
                item();
            }
        }

        private void split() {
            int place = 0;
            while (place < text.length()) {
                String rest = text.substring(place);
                String token = rest.replaceFirst("(?s)^([A-Za-z][A-Za-z0-9]*|->|[()\\\\:.;=]).*", "$1");
                if (" \t\r\n".indexOf(rest.charAt(0)) >= 0) {
                    place++;
                } else if (token.matches("[A-Za-z][A-Za-z0-9]{0,7}|->|[()\\\\:.;=]")) {
                    tokens.add(new Token(token, place));
                    place += token.length();
                } else {
                    tokens.add(new Token("?", place));
                    return;
                }
            }
            tokens.add(new Token("$", text.length()));
        }

        private static String sort(String token) {
            if (List.of("con", "met", "eq", "o", "i").contains(token) || !Character.isLetter(token.charAt(0))) {
                return token;
            }
            return "NAME";
        }

        /** A stack of what is still due, top first, each with how many TYPEs and TERMs it lies in. */
        private void predict() {
            Deque<String> due = new ArrayDeque<>();
            due.push("TEXT");
            int next = 0;
            while (!due.isEmpty()) {
                Token token = tokens.get(next);
                String sort = sort(token.text());
                String top = due.pop();
                if (top.equals(sort)) {
                    next++;
                    continue;
                }
                String[] parts = top.split("/");
                int depth = parts.length > 1 ? Integer.parseInt(parts[1]) : 0;
                String rule = rule(parts[0], sort, depth);
                if (rule == null) {
                    throw new Told(0, token.place());
                }
                String[] symbols = rule.isEmpty() ? new String[0] : rule.split(" ");
                for (int k = symbols.length - 1; k >= 0; k--) {
                    due.push(symbols[k].replace("+", "/" + (depth + 1)).replace("#", "/" + depth));
                }
            }
        }

        private static String rule(String symbol, String sort, int depth) {
            boolean name = sort.equals("NAME");
            switch (symbol) {
                case "TEXT":
                    if (sort.equals("$")) {
                        return "$";
                    }
                    if (sort.equals("eq")) {
                        return "eq TERM = TERM ; TEXT";
                    }
                    return sort.equals("con") || sort.equals("met") ? sort + " NAME : TYPE ; TEXT" : null;
                case "TYPE":
                    return depth <= 20 ? "ATOM# TAIL#" : null;
                case "ATOM":
                    return sort.equals("(") ? "( TYPE+ )" : sort.equals("o") || sort.equals("i") ? sort : null;
                case "TAIL":
                    return sort.equals("->") ? "-> TYPE+" : "";
                case "TERM":
                    if (depth > 20) {
                        return null;
                    }
                    return sort.equals("\\") ? "\\ NAME : TYPE+ . TERM+" : name ? "NAME ARGS#" : null;
                case "ARGS":
                    return sort.equals("(") ? "( TERM+ ) ARGS#" : name ? "NAME ARGS#" : "";
                default:
                    return null;
            }
        }

        private String peek() {
            return tokens.get(at).text();
        }

        private Token next() {
            return tokens.get(at++);
        }

        private void item() {
            Token first = next();
            if (first.text().equals("eq")) {
                equation(first);
                return;
            }
            boolean constant = first.text().equals("con");
            Token name = next();
            if (constant ? constants.size() == 8 : unknowns.size() == 5) {
                throw new Told(6, name.place());
            }
            if (declared(name.text()) != null) {
                throw new Told(1, name.place());
            }
            next();
            int place = tokens.get(at).place();
            Type type = type();
            if (type.atoms() > 5) {
                throw new Told(6, place);
            }
            next();
            if (constant) {
                constants.add(new Constant(name.text(), type));
            } else {
                unknowns.add(new Unknown(name.text(), type));
            }
        }

        private Head declared(String name) {
            for (Head head : constants) {
                if (head.name.equals(name)) {
                    return head;
                }
            }
            for (Head head : unknowns) {
                if (head.name.equals(name)) {
                    return head;
                }
            }
            return null;
        }

        private void equation(Token first) {
            if (sides.size() == 8) {
                throw new Told(6, first.place());
            }
            int begin = at;
            while (!peek().equals(";")) {
                if (next().text().equals(":")) {
                    int place = tokens.get(at).place();
                    if (type().atoms() > 5) {
                        throw new Told(6, place);
                    }
                }
            }
            at = begin;
            Map<String, Variable> scope = Map.of();
            Type[] types = new Type[2];
            Term left = term(scope, types, 0);
            Token sign = next();
            Term right = term(scope, types, 1);
            if (!types[0].equals(types[1])) {
                throw new Told(4, sign.place());
            }
            next();
            sides.add(left);
            sides.add(right);
        }

        private Type type() {
            Type from;
            String token = next().text();
            if (token.equals("(")) {
                from = type();
                next();
            } else {
                from = token.equals("o") ? Type.O : Type.I;
            }
            if (!peek().equals("->")) {
                return from;
            }
            next();
            return Type.arrow(from, type());
        }

        private Term term(Map<String, Variable> scope, Type[] types, int into) {
            if (!peek().equals("\\")) {
                return named(scope, types, into, true);
            }
            next();
            String name = next().text();
            next();
            Variable variable = new Variable(name, type());
            next();
            Map<String, Variable> inner = new HashMap<>(scope);
            inner.put(name, variable);
            Term body = term(inner, types, into);
            types[into] = Type.arrow(variable.type, types[into]);
            return Term.lambda(variable, body);
        }

        private Term named(Map<String, Variable> scope, Type[] types, int into, boolean takes) {
            Token name = next();
            Head head = scope.containsKey(name.text()) ? scope.get(name.text()) : declared(name.text());
            if (head == null) {
                throw new Told(2, name.place());
            }
            Type left = head.type;
            List<Term> arguments = new ArrayList<>();
            while (takes && (peek().equals("(") || sort(peek()).equals("NAME"))) {
                int place = tokens.get(at).place();
                Type[] given = new Type[1];
                Term argument;
                if (peek().equals("(")) {
                    next();
                    argument = term(scope, given, 0);
                    next();
                } else {
                    argument = named(scope, given, 0, false);
                }
                if (left.atom != null || !left.from.equals(given[0])) {
                    throw new Told(3, place);
                }
                left = left.to;
                arguments.add(argument);
            }
            if (head instanceof Unknown) {
                List<Variable> had = new ArrayList<>();
                for (Term argument : arguments) {
                    Variable variable = asVariable(argument);
                    if (variable == null || had.contains(variable)) {
                        throw new Told(5, name.place());
                    }
                    had.add(variable);
                }
            }
            types[into] = left;
            return eta(head, arguments, left);
        }
    }

    // ---- solving

    private static final class Solving {
        private final Reading reading;
        private int made = 0;

        Solving(Reading reading) {
            this.reading = reading;
        }

        static Term longForm(Unknown unknown) {
            return eta(unknown, List.of(), unknown.type);
        }

        /** Puts all in, mends the first difference, and starts anew until there is none. */
        boolean solve() {
            int k = 0;
            while (k < reading.sides.size()) {
                Term[] pair = difference(whole(reading.sides.get(k)), whole(reading.sides.get(k + 1)), Map.of());
                if (pair == null) {
                    k += 2;
                } else if (!mend(pair[0], pair[1])) {
                    return false;
                } else {
                    k = 0;
                }
            }
            return true;
        }

        private static Term[] difference(Term left, Term right, Map<Variable, Term> renamed) {
            if (left.bound != null) {
                Map<Variable, Term> more = new HashMap<>(renamed);
                more.put(right.bound, eta(left.bound, List.of(), left.bound.type));
                return difference(left.body, right.body, more);
            }
            Head head = right.head;
            if (head instanceof Variable variable && renamed.containsKey(variable)) {
                head = asVariable(renamed.get(variable));
            }
            if (left.head instanceof Unknown || head instanceof Unknown || left.head != head) {
                Term renamedRight = put(right, renamed, new int[] {300000});
                return same(left, renamedRight, Map.of()) ? null : new Term[] {left, renamedRight};
            }
            for (int j = 0; j < left.arguments.size(); j++) {
                Term[] found = difference(left.arguments.get(j), right.arguments.get(j), renamed);
                if (found != null) {
                    return found;
                }
            }
            return null;
        }

        private boolean mend(Term left, Term right) {
            if (left.head == right.head) {
                boolean[] kept = new boolean[left.arguments.size()];
                for (int j = 0; j < kept.length; j++) {
                    kept[j] = asVariable(left.arguments.get(j)) == asVariable(right.arguments.get(j));
                }
                narrow((Unknown) left.head, kept);
                return true;
            }
            if (!(left.head instanceof Unknown)) {
                return right.head instanceof Unknown && mend(right, left);
            }
            Unknown unknown = (Unknown) left.head;
            List<Variable> allowed = new ArrayList<>();
            for (Term argument : left.arguments) {
                allowed.add(asVariable(argument));
            }
            Boolean narrowed = fit(right, unknown, allowed);
            if (narrowed == null) {
                return false;
            }
            if (!narrowed) {
                Term solution = right;
                for (int j = allowed.size() - 1; j >= 0; j--) {
                    solution = Term.lambda(allowed.get(j), solution);
                }
                unknown.solution = solution;
            }
            return true;
        }

        /** Null when there is no way, true when an unknown was narrowed, false when all is allowed. */
        private Boolean fit(Term term, Unknown self, List<Variable> allowed) {
            if (term.bound != null) {
                List<Variable> more = new ArrayList<>(allowed);
                more.add(term.bound);
                return fit(term.body, self, more);
            }
            if (term.head == self || term.head instanceof Variable && !allowed.contains(term.head)) {
                return null;
            }
            boolean narrowed = false;
            if (term.head instanceof Unknown unknown) {
                boolean[] kept = new boolean[term.arguments.size()];
                boolean all = true;
                for (int j = 0; j < kept.length; j++) {
                    kept[j] = allowed.contains(asVariable(term.arguments.get(j)));
                    all &= kept[j];
                }
                if (!all && unknown.solution == null) {
                    narrow(unknown, kept);
                }
                return !all;
            }
            for (Term argument : term.arguments) {
                Boolean inside = fit(argument, self, allowed);
                if (inside == null) {
                    return null;
                }
                narrowed |= inside;
            }
            return narrowed;
        }

        private void narrow(Unknown unknown, boolean[] kept) {
            List<Variable> variables = new ArrayList<>();
            List<Term> arguments = new ArrayList<>();
            Type rest = unknown.type;
            List<Type> keptTypes = new ArrayList<>();
            for (boolean keep : kept) {
                Variable variable = new Variable("z", rest.from);
                variables.add(variable);
                if (keep) {
                    arguments.add(eta(variable, List.of(), variable.type));
                    keptTypes.add(rest.from);
                }
                rest = rest.to;
            }
            Type type = rest;
            for (int j = keptTypes.size() - 1; j >= 0; j--) {
                type = Type.arrow(keptTypes.get(j), type);
            }
            Term solution = Term.call(new Unknown("n" + made++, type), arguments);
            for (int j = variables.size() - 1; j >= 0; j--) {
                solution = Term.lambda(variables.get(j), solution);
            }
            unknown.solution = solution;
        }
    }

    // ---- writing

    private static final class Writing {
        final Map<Head, Integer> numbers = new HashMap<>();
        private final Map<Head, List<Integer>> orders = new HashMap<>();

        Writing(Solving solving) {
            for (Unknown unknown : solving.reading.unknowns) {
                number(whole(Solving.longForm(unknown)), List.of());
            }
        }

        private void number(Term term, List<Variable> around) {
            if (term.bound != null) {
                List<Variable> more = new ArrayList<>(around);
                more.add(term.bound);
                number(term.body, more);
                return;
            }
            if (term.head instanceof Unknown && !numbers.containsKey(term.head)) {
                numbers.put(term.head, numbers.size());
                List<Integer> order = new ArrayList<>();
                for (Variable variable : around) {
                    for (int j = 0; j < term.arguments.size(); j++) {
                        if (asVariable(term.arguments.get(j)) == variable) {
                            order.add(j);
                        }
                    }
                }
                orders.put(term.head, order);
            }
            for (Term argument : term.arguments) {
                number(argument, around);
            }
        }

        String write(Term term) {
            StringBuilder made = new StringBuilder();
            write(whole(term), new HashMap<>(), made);
            return made.toString();
        }

        private void write(Term term, Map<Variable, Integer> around, StringBuilder into) {
            if (term.bound != null) {
                Map<Variable, Integer> more = new HashMap<>(around);
                more.put(term.bound, around.size());
                into.append("\\x").append(around.size()).append('.');
                write(term.body, more, into);
                return;
            }
            List<Term> arguments = term.arguments;
            if (term.head instanceof Variable variable) {
                into.append('x').append(around.get(variable));
            } else if (term.head instanceof Unknown) {
                into.append('h').append(numbers.get(term.head));
                arguments = new ArrayList<>();
                for (int j : orders.get(term.head)) {
                    arguments.add(term.arguments.get(j));
                }
            } else {
                into.append(term.head.name);
            }
            for (Term argument : arguments) {
                boolean plain = argument.bound == null && argument.arguments.isEmpty();
                into.append(plain ? " " : " (");
                write(argument, around, into);
                into.append(plain ? "" : ")");
            }
        }
    }

    // ---- making texts

    /** Makes a text of terms that have types; then, at times, spoils it. */
    private static final class Maker {
        private final Random random;
        private final List<Constant> constants = new ArrayList<>();
        private final List<Unknown> unknowns = new ArrayList<>();
        private int patience;
        private int favourite;
        private int forbidden;
        private static final String[] NAMES = {"a", "b", "c", "f", "g", "h", "k", "M", "N", "P", "Q", "R", "x", "y", "z1"};

        Maker(Random random) {
            this.random = random;
        }

        private int below(int n) {
            return random.nextInt(n);
        }

        private boolean chance(int percent) {
            return below(100) < percent;
        }

        String text() {
            if (chance(4)) {
                return tokensAtRandom();
            }
            for (int tries = 0; tries < 200; tries++) {
                String made = chance(4) ? doubling() : chance(30) ? layered() : wellMade();
                if (made != null && made.length() <= 236) {
                    return chance(35) ? spoiled(made) : made;
                }
            }
            return "";
        }

        private String tokensAtRandom() {
            String[] all = {"con ", "met ", "eq ", "a", "b", " x", ":", ":i", ":i;", ";", "i", "o", "->", "(", ")", "\\",
                "\\x:i.", ".", "=", "-", " ", "con a:i;", "met M:i->i;", "eq a=a;", "abcdefghi"};
            StringBuilder made = new StringBuilder(chance(50) ? "con a:i;met b:i->o;" : "");
            int n = below(12);
            for (int k = 0; k < n; k++) {
                made.append(all[below(all.length)]);
            }
            return made.toString();
        }

        /** Unknowns before variables in many orders, given in terms of one another. */
        private String layered() {
            boolean functions = chance(25);
            String of = functions ? "(i->i)" : "i";
            StringBuilder made = new StringBuilder("con f:i->i->i;con g:i->i;con a:i;");
            made.append(chance(50) ? "con q:(" + of + "->i)->i;" : "");
            boolean binds = made.indexOf("con q") >= 0;
            String[] names = {"A", "B", "C", "D", "E"};
            int[] arities = new int[1 + below(5)];
            for (int k = 0; k < arities.length; k++) {
                arities[k] = below(functions ? 3 : 4);
                made.append("met ").append(names[k]).append(":").append((of + "->").repeat(arities[k])).append("i;");
            }
            int equations = 1 + below(4);
            favourite = -1;
            for (int k = 0; k < equations; k++) {
                forbidden = -1;
                int around = 1 + below(3);
                StringBuilder binders = new StringBuilder();
                for (int j = 0; j < around; j++) {
                    binders.append("\\").append("xyz".charAt(j)).append(":").append(functions ? "i->i" : "i").append(".");
                }
                String left = chance(85) ? layeredCall(names, arities, around) : layeredTerm(names, arities, around, 2, binds, functions);
                int given = List.of(names).indexOf(left.substring(0, 1));
                forbidden = chance(80) ? given : -1;
                String right = layeredTerm(names, arities, around, 3, binds, functions);
                favourite = given;
                made.append("eq").append(binders).append(left).append("=").append(binders).append(right).append(";");
            }
            return made.toString();
        }

        private String layeredCall(String[] names, int[] arities, int around) {
            int k = favourite >= 0 && chance(50) ? favourite : below(arities.length);
            for (int tries = 0; tries < 9 && (arities[k] > around || k == forbidden); tries++) {
                k = below(arities.length);
            }
            List<String> variables = new ArrayList<>(List.of("x", "y", "z", "u", "v", "w").subList(0, around));
            Collections.shuffle(variables, random);
            return arities[k] > around ? "a" : names[k] + " " + String.join(" ", variables.subList(0, arities[k]));
        }

        private String layeredTerm(String[] names, int[] arities, int around, int depth, boolean binds, boolean functions) {
            int pick = below(10);
            if (depth == 0 || pick < 4) {
                String variable = "xyzuvw".charAt(below(around)) + "";
                return chance(92) ? layeredCall(names, arities, around) : functions ? variable + " a" : variable;
            }
            if (binds && pick == 4 && around < 6) {
                String inner = layeredTerm(names, arities, around + 1, depth - 1, binds, functions);
                return "q(\\" + "xyzuvw".charAt(around) + ":" + (functions ? "i->i" : "i") + "." + inner + ")";
            }
            String first = "(" + layeredTerm(names, arities, around, depth - 1, binds, functions) + ")";
            if (functions && pick == 5) {
                return "xyzuvw".charAt(below(around)) + first;
            }
            return pick < 7 ? "g" + first : "f" + first + "(" + layeredTerm(names, arities, around, depth - 1, binds, functions) + ")";
        }

        /** Each unknown holds the next one many times, so that the first is long. */
        private String doubling() {
            int arity = 2 + below(3);
            boolean functions = chance(40);
            String type = functions ? "i->i" : "i";
            StringBuilder made = new StringBuilder("con f:i" + "->i".repeat(arity) + ";con a:i;");
            String[] names = {"A", "B", "C", "D", "E"};
            int chain = 3 + below(3);
            for (int k = 0; k < chain; k++) {
                made.append("met ").append(names[k]).append(":").append(type).append(";");
            }
            List<String> equations = new ArrayList<>();
            for (int k = 0; k < Math.min(chain - 1, 4); k++) {
                String inner = functions ? "(" + names[k + 1] + " x)" : " " + names[k + 1];
                StringBuilder term = new StringBuilder("f");
                for (int j = 0; j < arity; j++) {
                    String nested = "(f" + inner.repeat(arity) + ")";
                    String last = chance(50) && functions ? " x" : " a";
                    term.append(chance(12) ? last : chance(25) ? nested : inner);
                }
                equations.add(functions ? "eq \\x:i." + names[k] + " x=\\x:i." + term + ";" : "eq " + names[k] + "=" + term + ";");
            }
            while (equations.size() < 4 && chance(40)) {
                equations.add("eq " + names[below(chain)] + "=" + names[below(chain)] + ";");
            }
            Collections.shuffle(equations, random);
            return made + String.join("", equations);
        }

        private String spoiled(String text) {
            StringBuilder made = new StringBuilder(text);
            int times = 1 + below(2);
            for (int n = 0; n < times && made.length() > 0; n++) {
                int at = below(made.length());
                String signs = "()\\:.;=->aMxio \n\t19\u00ff";
                switch (below(5)) {
                    case 0:
                        made.deleteCharAt(at);
                        break;
                    case 1:
                        made.insert(at, signs.charAt(below(signs.length())));
                        break;
                    case 2:
                        made.setCharAt(at, signs.charAt(below(signs.length())));
                        break;
                    default:
                        swapNames(made);
                        break;
                }
            }
            return made.toString();
        }

        /** Puts another name or atom in a place where one stands: mostly a wrong text, seldom a fault. */
        private void swapNames(StringBuilder text) {
            for (int tries = 0; tries < 30; tries++) {
                int at = below(text.length());
                char letter = text.charAt(at);
                boolean alone = (at == 0 || !Character.isLetterOrDigit(text.charAt(at - 1)))
                        && (at + 1 == text.length() || !Character.isLetterOrDigit(text.charAt(at + 1)));
                if (alone && (letter == 'i' || letter == 'o')) {
                    text.replace(at, at + 1, chance(60) ? (letter == 'i' ? "o" : "i") : chance(50) ? "i->i" : "i->i->i->i->i->o");
                    return;
                }
                if (alone && Character.isLetter(letter)) {
                    text.setCharAt(at, NAMES[below(NAMES.length - 1)].charAt(0));
                    return;
                }
            }
        }

        private Type type(int atoms) {
            if (atoms == 1) {
                return chance(85) ? Type.I : Type.O;
            }
            int first = chance(60) ? 1 : 1 + below(atoms - 1);
            return Type.arrow(type(first), type(atoms - first));
        }

        private String blank() {
            return chance(95) ? "" : chance(50) ? " " : "\n\t";
        }

        private String wellMade() {
            constants.clear();
            unknowns.clear();
            StringBuilder made = new StringBuilder();
            List<String> free = new ArrayList<>(List.of(NAMES));
            int constantsWanted = 1 + below(chance(3) ? 10 : 5);
            int unknownsWanted = below(10) == 0 ? 0 : 1 + below(chance(3) ? 6 : 4);
            for (int k = 0; k < constantsWanted + unknownsWanted; k++) {
                String name = free.remove(below(free.size()));
                boolean constant = k < constantsWanted;
                Type type = type(1 + below(chance(70) ? 3 : chance(98) ? 5 : 6));
                made.append(blank()).append(constant ? "con " : "met ").append(name).append(":").append(type.text());
                made.append(blank()).append(";");
                if (constant) {
                    constants.add(new Constant(name, type));
                } else {
                    unknowns.add(new Unknown(name, type));
                }
                if (constants.size() > 8 || unknowns.size() > 5) {
                    return made.toString();
                }
            }
            int equations = chance(1) ? 5 : 1 + below(4);
            for (int k = 0; k < equations; k++) {
                String equation = equation();
                if (equation == null) {
                    return null;
                }
                made.append(equation);
            }
            return made.toString();
        }

        private String equation() {
            patience = 300;
            Type type = chance(30) ? type(1) : type(2 + below(3));
            int binders = chance(10) ? 9 : below(4);
            if (chance(25) && !unknowns.isEmpty()) {
                type = unknowns.get(below(unknowns.size())).type;
            }
            Shape shape = shape(type, new ArrayList<>(), 1 + below(4), binders);
            Shape other = chance(70) ? shape : shape(type, new ArrayList<>(), 1 + below(4), binders);
            if (shape == null || other == null) {
                return null;
            }
            int hidden = 10 + below(60);
            String left = print(shape, new ArrayList<>(), hidden, true);
            String right = print(other, new ArrayList<>(), hidden, true);
            if (left == null || right == null) {
                return null;
            }
            return blank() + "eq " + left + blank() + "=" + blank() + right + ";";
        }

        /** A term as it will be printed: names are chosen when it is, so that both sides differ. */
        private static final class Shape {
            Type bound;
            Shape body;
            Head head;
            int level;
            List<Shape> arguments = new ArrayList<>();
            Type type;
        }

        private Shape shape(Type type, List<Type> scope, int depth, int binders) {
            if (--patience < 0) {
                return null;
            }
            Shape made = new Shape();
            made.type = type;
            if (type.atom == null && (chance(85) || binders > 3)) {
                made.bound = type.from;
                List<Type> inner = new ArrayList<>(scope);
                inner.add(type.from);
                made.body = shape(type.to, inner, depth, binders);
                return made.body == null ? null : made;
            }
            List<Head> heads = new ArrayList<>();
            List<Integer> levels = new ArrayList<>();
            for (Head head : constants) {
                heads.add(head);
                levels.add(-1);
            }
            for (int level = 0; level < scope.size(); level++) {
                heads.add(new Variable("", scope.get(level)));
                levels.add(level);
            }
            for (int tries = 0; tries < 12; tries++) {
                int k = heads.isEmpty() ? -1 : below(heads.size());
                if (k < 0) {
                    return null;
                }
                Type left = heads.get(k).type;
                List<Type> wanted = new ArrayList<>();
                while (!left.equals(type) && left.atom == null) {
                    wanted.add(left.from);
                    left = left.to;
                }
                if (!left.equals(type) || depth <= 0 && !wanted.isEmpty() && tries < 8) {
                    continue;
                }
                made.head = heads.get(k);
                made.level = levels.get(k);
                made.arguments.clear();
                boolean fine = depth > -3;
                for (Type argument : wanted) {
                    Shape given = fine ? shape(argument, scope, depth - 1, binders) : null;
                    fine &= given != null;
                    made.arguments.add(given);
                }
                if (fine) {
                    return made;
                }
            }
            return null;
        }

        private String print(Shape shape, List<Variable> scope, int hidden, boolean top) {
            if (shape.type.atom != null && chance(hidden) || shape.type.atom == null && chance(hidden / 4)) {
                String pattern = pattern(shape.type, scope);
                if (pattern != null) {
                    return pattern;
                }
            }
            if (shape.bound != null) {
                String name = chance(90) ? "xyzuvw".charAt(scope.size() % 6) + "" : NAMES[below(NAMES.length)];
                List<Variable> inner = new ArrayList<>(scope);
                inner.add(new Variable(name, shape.bound));
                String body = print(shape.body, inner, hidden, top);
                return body == null ? null : "\\" + name + ":" + shape.bound.text() + "." + body;
            }
            String name = shape.level >= 0 ? scope.get(shape.level).name : shape.head.name;
            if (shape.level >= 0 ? !isSeen(scope, shape.level) : isHidden(scope, name)) {
                return null;
            }
            StringBuilder made = new StringBuilder(name);
            for (Shape argument : shape.arguments) {
                String text = print(argument, scope, hidden, false);
                if (text == null) {
                    return null;
                }
                boolean plain = text.matches("[A-Za-z0-9]+") && chance(95);
                made.append(plain ? " " + text : (chance(90) ? "" : " ") + "(" + text + ")");
            }
            return made.toString();
        }

        private static boolean isSeen(List<Variable> scope, int level) {
            for (int k = level + 1; k < scope.size(); k++) {
                if (scope.get(k).name.equals(scope.get(level).name)) {
                    return false;
                }
            }
            return true;
        }

        private static boolean isHidden(List<Variable> scope, String name) {
            for (Variable variable : scope) {
                if (variable.name.equals(name)) {
                    return true;
                }
            }
            return false;
        }

        /** An unknown before distinct variables that has the type, or null. */
        private String pattern(Type type, List<Variable> scope) {
            if (unknowns.isEmpty()) {
                return null;
            }
            Unknown unknown = unknowns.get(below(unknowns.size()));
            if (isHidden(scope, unknown.name)) {
                return null;
            }
            StringBuilder made = new StringBuilder(unknown.name);
            Type left = unknown.type;
            List<Integer> used = new ArrayList<>();
            while (!left.equals(type)) {
                int found = -1;
                for (int tries = 0; tries < 8 && found < 0 && !scope.isEmpty() && left.atom == null; tries++) {
                    int k = below(scope.size());
                    if (scope.get(k).type.equals(left.from) && isSeen(scope, k) && (!used.contains(k) || chance(2))) {
                        found = k;
                    }
                }
                if (found < 0 && left.atom == null && chance(3)) {
                    Shape instead = shape(left.from, List.of(), 0, 0);
                    String text = instead == null ? null : print(instead, scope, 0, false);
                    if (text != null) {
                        made.append("(").append(text).append(")");
                        left = left.to;
                        continue;
                    }
                }
                if (found < 0) {
                    return null;
                }
                used.add(found);
                made.append(variable(scope.get(found)));
                left = left.to;
            }
            return made.toString();
        }

        private String variable(Variable variable) {
            if (variable.type.atom == null && chance(25)) {
                String bound = variable.name.equals("e") ? "d" : "e";
                return "(\\" + bound + ":" + variable.type.from.text() + "." + variable.name + " " + bound + ")";
            }
            return chance(97) ? " " + variable.name : "(" + variable.name + ")";
        }
    }
}
