import java.util.ArrayList;
import java.util.Collections;
import java.util.HashMap;
import java.util.List;
import java.util.Map;
import java.util.Random;
import java.util.TreeMap;

/**
 * The document's own words on what a unifier is and when it is most general, without a second solver:
 * a unifier is made up first and then a text that has it, so that the solution must be there, must make
 * both sides the same, and must have the made-up unifier come of it.
 */
public final class PatternDeskGenerality extends Dues {
    private static final int TEXTS = 20000;
    private static final int MOST_BYTES = 240;
    private static final int MOST_READ = 480;
    private static Random random = new Random(1);
    private static final int[] seen = new int[4];

    public static void main(String[] args) {
        section("generality");
        int texts = args.length > 0 ? Integer.parseInt(args[0]) : TEXTS;
        random = new Random(args.length > 1 ? Long.parseLong(args[1]) : 1);
        for (int n = 0; n < texts; n++) {
            Case made = new Case(n % 4 != 0);
            if (made.text.length() <= MOST_BYTES) {
                compare(made);
            }
        }
        System.out.println(seen[0] + " texts with a unifier, " + seen[1] + " of them with unknowns of their own; "
                + seen[2] + " others with a solution, " + seen[3] + " without one");
        for (int k = 0; k < seen.length; k++) {
            due("whether there were texts of sort " + k, seen[k] >= 200 ? 1 : 0, 1);
        }
        end("each solution is a most general unifier");
    }

    private static void compare(Case made) {
        Desk desk = new Desk();
        due("load of " + made.text, load(desk, made.text), 0);
        int answer = desk.solve();
        if (made.hasUnifier) {
            due("solve() of " + made.text, answer, 0);
        }
        if (answer != 0) {
            seen[3]++;
            return;
        }
        Map<String, Term> solutions = new TreeMap<>();
        for (int k = 0; k < made.unknowns.size(); k++) {
            if (desk.size(k) > MOST_READ) {
                return;
            }
            String written = solution(solved(made.text, 0), k);
            Term solution = new Reader(written).term();
            dueText("the writing of unknown " + k + " of " + made.text, written, solution.written(0));
            solutions.put(made.unknowns.get(k), solution);
        }
        seen[made.hasUnifier ? 0 : 2]++;
        seen[1] += desk.fresh() > 0 && made.hasUnifier ? 1 : 0;
        due("fresh() of " + made.text, desk.fresh(), ownUnknowns(made, solutions));
        dueSidesAlike(made, solutions);
        if (made.hasUnifier) {
            dueGeneral(made, solutions);
        }
    }

    /** How many there are; on the way, whether they are numbered and have their ARGs as the document says. */
    private static int ownUnknowns(Case made, Map<String, Term> solutions) {
        List<String> found = new ArrayList<>();
        for (String unknown : made.unknowns) {
            number(made.text, solutions.get(unknown), found);
        }
        return found.size();
    }

    private static void number(String text, Term term, List<String> found) {
        if (!term.head.startsWith("h")) {
            for (Term argument : term.arguments) {
                number(text, argument, found);
            }
        } else if (!found.contains(term.head)) {
            dueText("the next own unknown of " + text, term.head, "h" + found.size());
            found.add(term.head);
            List<Integer> levels = term.variables();
            for (int j = 1; j < levels.size(); j++) {
                due("the order of the ARGs of " + term.head + " of " + text, levels.get(j - 1) < levels.get(j) ? 1 : 0, 1);
            }
        }
    }

    private static void dueSidesAlike(Case made, Map<String, Term> solutions) {
        for (int k = 0; k < made.sides.size(); k++) {
            String want = made.sides.get(k).with(solutions, 0).written(0);
            if (want.length() <= MOST_READ) {
                dueText("side " + k % 2 + " of eq " + k / 2 + " of " + made.text,
                        PatternDeskGenerality.written(solved(made.text, 0), k / 2, k % 2), want);
            }
            String other = made.sides.get(k ^ 1).with(solutions, 0).written(0);
            dueText("the other side of eq " + k / 2 + " of " + made.text, other, want);
        }
    }

    private static void dueGeneral(Case made, Map<String, Term> solutions) {
        Map<String, String> given = new HashMap<>();
        for (String unknown : made.unknowns) {
            Term unifier = made.unifier.get(unknown);
            if (!comesOf(solutions.get(unknown), unifier, 0, given)) {
                dueText(unknown + " of " + made.text, solutions.get(unknown).written(0), "one of which comes " + unifier.written(0));
            }
        }
    }

    /** Whether own unknowns can be given terms, the same at each place, such that the other term comes. */
    private static boolean comesOf(Term general, Term other, int around, Map<String, String> given) {
        if (general.binds.size() != other.binds.size()) {
            return false;
        }
        int level = around + general.binds.size();
        if (general.head.startsWith("h")) {
            Term closed = other.body().closed(general.variables(), level);
            String term = closed == null ? null : closed.written(general.arguments.size());
            String before = given.putIfAbsent(general.head, term == null ? "none" : term);
            return term != null && (before == null || before.equals(term));
        }
        boolean fine = general.head.equals(other.head) && general.arguments.size() == other.arguments.size();
        for (int j = 0; fine && j < general.arguments.size(); j++) {
            fine = comesOf(general.arguments.get(j), other.arguments.get(j), level, given);
        }
        return fine;
    }

    private static boolean chance(int percent) {
        return random.nextInt(100) < percent;
    }

    private static <T> T any(List<T> list) {
        return list.get(random.nextInt(list.size()));
    }

    private record Type(List<Type> takes, String gives) {
        static final Type I = new Type(List.of(), "i");
        static final Type O = new Type(List.of(), "o");

        static Type of(Type gives, Type... takes) {
            return new Type(List.of(takes), gives.gives);
        }

        static Type any(int atoms) {
            List<Type> takes = new ArrayList<>();
            int left = atoms - 1;
            while (left > 0) {
                int first = chance(70) ? 1 : 1 + random.nextInt(left);
                takes.add(any(first));
                left -= first;
            }
            return new Type(takes, chance(85) ? "i" : "o");
        }

        String text() {
            StringBuilder made = new StringBuilder();
            for (Type type : takes) {
                made.append(type.takes.isEmpty() ? type.text() : "(" + type.text() + ")").append("->");
            }
            return made + gives;
        }
    }

    /**
     * A long form. Variables are x0, x1, .. by how many \ are around their own, in texts too;
     * where only their number is known, the types of what is bound are null.
     */
    private record Term(List<Type> binds, String head, List<Term> arguments) {
        static Term longForm(String head, Type type, int around) {
            int level = around + type.takes().size();
            List<Term> arguments = new ArrayList<>();
            for (int j = 0; j < type.takes().size(); j++) {
                arguments.add(longForm("x" + (around + j), type.takes().get(j), level));
            }
            return new Term(type.takes(), head, arguments);
        }

        Term body() {
            return new Term(List.of(), head, arguments);
        }

        /** The levels of the variables that an unknown stands before. */
        List<Integer> variables() {
            List<Integer> levels = new ArrayList<>();
            for (Term argument : arguments) {
                levels.add(argument.level());
            }
            return levels;
        }

        int level() {
            return Integer.parseInt(head.substring(1));
        }

        String written(int around) {
            StringBuilder made = new StringBuilder();
            for (int j = 0; j < binds.size(); j++) {
                made.append("\\x").append(around + j).append(".");
            }
            made.append(head);
            for (Term argument : arguments) {
                String text = argument.written(around + binds.size());
                boolean plain = argument.binds.isEmpty() && argument.arguments.isEmpty();
                made.append(plain ? " " + text : " (" + text + ")");
            }
            return made.toString();
        }

        /** With the first variables renamed to those at the levels, and what is bound inside moved to level. */
        private Term renamed(List<Integer> levels, int level) {
            List<Term> moved = new ArrayList<>();
            for (Term argument : arguments) {
                moved.add(argument.renamed(levels, level));
            }
            if (!head.startsWith("x")) {
                return new Term(binds, head, moved);
            }
            int own = level();
            int there = own < levels.size() ? levels.get(own) : own - levels.size() + level;
            return new Term(binds, "x" + there, moved);
        }

        /** What comes of an unknown that has this for its solution, before the variables at the levels. */
        Term before(List<Integer> levels, int level) {
            return body().renamed(levels, level);
        }

        /** The term of which this comes before the variables at the levels, null where another one is in it. */
        Term closed(List<Integer> levels, int level) {
            List<Term> moved = new ArrayList<>();
            for (Term argument : arguments) {
                Term inner = argument.closed(levels, level);
                if (inner == null) {
                    return null;
                }
                moved.add(inner);
            }
            if (!head.startsWith("x")) {
                return new Term(binds, head, moved);
            }
            int own = level();
            if (own < level && !levels.contains(own)) {
                return null;
            }
            int there = own < level ? levels.indexOf(own) : own - level + levels.size();
            return new Term(binds, "x" + there, moved);
        }

        Term with(Map<String, Term> solutions, int around) {
            int level = around + binds.size();
            if (solutions.containsKey(head)) {
                Term put = solutions.get(head).before(variables(), level);
                return new Term(binds, put.head, put.arguments);
            }
            List<Term> given = new ArrayList<>();
            for (Term argument : arguments) {
                given.add(argument.with(solutions, level));
            }
            return new Term(binds, head, given);
        }
    }

    /** Reads what the program has written. */
    private static final class Reader {
        private final String text;
        private int at = 0;

        Reader(String text) {
            this.text = text;
        }

        private boolean takes(String sign) {
            boolean there = text.startsWith(sign, at);
            at += there ? sign.length() : 0;
            return there;
        }

        private String name() {
            int start = at;
            while (at < text.length() && Character.isLetterOrDigit(text.charAt(at))) {
                at++;
            }
            return text.substring(start, at);
        }

        Term term() {
            List<Type> binds = new ArrayList<>();
            while (takes("\\")) {
                name();
                takes(".");
                binds.add(null);
            }
            String head = name();
            List<Term> arguments = new ArrayList<>();
            while (takes(" ")) {
                if (takes("(")) {
                    arguments.add(term());
                    takes(")");
                } else {
                    arguments.add(new Term(List.of(), name(), List.of()));
                }
            }
            return new Term(binds, head, arguments);
        }
    }

    /** A made-up unifier, and a text that has it, or, on demand, one for which that is left open. */
    private static final class Case {
        final boolean hasUnifier;
        final Map<String, Type> constants = new TreeMap<>();
        final List<String> unknowns = new ArrayList<>();
        final Map<String, Type> types = new TreeMap<>();
        final Map<String, Term> unifier = new TreeMap<>();
        final List<Term> sides = new ArrayList<>();
        final String text;

        Case(boolean hasUnifier) {
            this.hasUnifier = hasUnifier;
            chooseConstants();
            chooseUnifier();
            StringBuilder made = new StringBuilder();
            constants.forEach((name, type) -> made.append("con " + name + ":" + type.text() + ";"));
            unknowns.forEach(name -> made.append("met " + name + ":" + types.get(name).text() + ";"));
            int equations = 1 + random.nextInt(4);
            for (int k = 0; k < equations && made.length() < 200; k++) {
                made.append(equation());
            }
            text = made.toString();
        }

        private void chooseConstants() {
            Map<String, Type> all = new TreeMap<>();
            Type function = Type.of(Type.I, Type.I);
            all.put("b", Type.I);
            all.put("f", Type.of(Type.I, Type.I, Type.I));
            all.put("g", function);
            all.put("q", Type.of(Type.I, function));
            all.put("r", Type.of(Type.I, function, Type.I));
            all.put("s", Type.of(Type.O, Type.I));
            all.put("t", Type.of(Type.I, Type.of(Type.I, function)));
            List<String> names = new ArrayList<>(all.keySet());
            Collections.shuffle(names, random);
            for (String name : names.subList(0, 1 + random.nextInt(3))) {
                constants.put(name, all.get(name));
            }
            // With one of each there is a term of every type.
            constants.put("a", Type.I);
            constants.put("p", Type.O);
        }

        private void chooseUnifier() {
            for (String name : List.of("M", "K", "N", "L", "P").subList(0, 1 + random.nextInt(5))) {
                Type type = Type.any(1 + random.nextInt(5));
                types.put(name, type);
                unifier.put(name, term(type, List.of(), random.nextInt(4)));
                unknowns.add(name);
            }
        }

        /** What unknowns that are there already come to stands in it often, so that they can stand for it. */
        private Term term(Type type, List<Type> around, int depth) {
            List<Type> scope = new ArrayList<>(around);
            scope.addAll(type.takes());
            List<String> heads = new ArrayList<>();
            addHeads(type, scope, depth, heads);
            String head = any(heads);
            if (unifier.containsKey(head)) {
                List<List<Integer>> rows = new ArrayList<>();
                addRows(types.get(head).takes(), scope, List.of(), rows);
                Term put = unifier.get(head).before(any(rows), scope.size());
                return new Term(type.takes(), put.head, put.arguments);
            }
            List<Term> arguments = new ArrayList<>();
            for (Type wanted : typeOf(head, scope).takes()) {
                arguments.add(term(wanted, scope, depth - 1));
            }
            return new Term(type.takes(), head, arguments);
        }

        private Type typeOf(String head, List<Type> scope) {
            return head.startsWith("x") ? scope.get(Integer.parseInt(head.substring(1))) : constants.get(head);
        }

        private void addHeads(Type type, List<Type> scope, int depth, List<String> heads) {
            List<String> names = new ArrayList<>(constants.keySet());
            for (int level = 0; level < scope.size(); level++) {
                names.add("x" + level);
                names.add("x" + level);
            }
            for (String name : names) {
                Type found = typeOf(name, scope);
                if (found.gives().equals(type.gives()) && (depth > 0 || found.takes().isEmpty())) {
                    heads.add(name);
                }
            }
            for (String name : unifier.keySet()) {
                List<List<Integer>> rows = new ArrayList<>();
                addRows(types.get(name).takes(), scope, List.of(), rows);
                if (types.get(name).gives().equals(type.gives()) && !rows.isEmpty()) {
                    heads.addAll(List.of(name, name));
                }
            }
        }

        /** All rows of distinct variables that have the types. */
        private void addRows(List<Type> wanted, List<Type> scope, List<Integer> row, List<List<Integer>> rows) {
            if (row.size() == wanted.size()) {
                rows.add(row);
                return;
            }
            for (int level = 0; level < scope.size(); level++) {
                if (scope.get(level).equals(wanted.get(row.size())) && !row.contains(level)) {
                    List<Integer> longer = new ArrayList<>(row);
                    longer.add(level);
                    addRows(wanted, scope, longer, rows);
                }
            }
        }

        private String equation() {
            Type type = Type.any(1 + random.nextInt(5));
            Term left = term(type, List.of(), 1 + random.nextInt(3));
            Term right = hasUnifier || chance(30) ? left : term(type, List.of(), 1 + random.nextInt(3));
            int folded = 20 + random.nextInt(80);
            sides.add(folded(left, List.of(), folded));
            sides.add(folded(right, List.of(), folded));
            return "eq " + text(sides.get(sides.size() - 2), List.of()) + "=" + text(sides.get(sides.size() - 1), List.of()) + ";";
        }

        /** The same term under the made-up unifier, with unknowns for some of its parts. */
        private Term folded(Term term, List<Type> around, int percent) {
            List<Type> scope = new ArrayList<>(around);
            scope.addAll(term.binds);
            List<Term> calls = chance(percent) ? callsFor(term.body(), scope) : List.of();
            if (!calls.isEmpty()) {
                Term call = any(calls);
                return new Term(term.binds, call.head, call.arguments);
            }
            List<Term> arguments = new ArrayList<>();
            for (Term argument : term.arguments) {
                arguments.add(folded(argument, scope, percent));
            }
            return new Term(term.binds, term.head, arguments);
        }

        private List<Term> callsFor(Term body, List<Type> scope) {
            String wanted = body.written(scope.size());
            List<Term> calls = new ArrayList<>();
            for (String unknown : unknowns) {
                List<List<Integer>> rows = new ArrayList<>();
                addRows(types.get(unknown).takes(), scope, List.of(), rows);
                for (List<Integer> row : rows) {
                    if (unifier.get(unknown).before(row, scope.size()).written(scope.size()).equals(wanted)) {
                        calls.add(call(unknown, row, scope));
                    }
                }
            }
            return calls;
        }

        private Term call(String unknown, List<Integer> row, List<Type> scope) {
            List<Term> arguments = new ArrayList<>();
            for (int level : row) {
                arguments.add(Term.longForm("x" + level, scope.get(level), scope.size()));
            }
            return new Term(List.of(), unknown, arguments);
        }

        /** As a TERM of a text: names that stand for long forms are now and then all that is left of these. */
        private String text(Term term, List<Type> around) {
            if (!unifier.containsKey(term.head) && !term.binds.isEmpty() && chance(60)) {
                Type type = term.head.startsWith("x") && term.level() >= around.size() ? null : typeOf(term.head, around);
                if (type != null && Term.longForm(term.head, type, around.size()).written(around.size()).equals(term.written(around.size()))) {
                    return term.head;
                }
            }
            List<Type> scope = new ArrayList<>(around);
            StringBuilder made = new StringBuilder();
            for (Type bound : term.binds) {
                made.append("\\x").append(scope.size()).append(":").append(bound.text()).append(".");
                scope.add(bound);
            }
            made.append(term.head);
            for (Term argument : term.arguments) {
                String given = text(argument, scope);
                boolean plain = given.matches("[A-Za-z0-9]+");
                made.append(plain ? " " + given : "(" + given + ")");
            }
            return made.toString();
        }
    }
}
