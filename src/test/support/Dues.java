/** What the tests by hand have in common: texts are fed, and answers that are not the due ones printed. */
abstract class Dues {
    static final int NONE = PatternDesk.NONE;
    private static int missed = 0;
    private static String section = "";

    static void section(String name) {
        section = name;
    }

    /** Ends the test, with exit code 1 if an answer was wrong. */
    static void end(String praise) {
        System.out.println(missed == 0 ? praise : missed + " answers are wrong");
        System.exit(missed == 0 ? 0 : 1);
    }

    static void due(String call, long got, long want) {
        dueText(call, Long.toString(got), Long.toString(want));
    }

    static void dueText(String call, String got, String want) {
        if (!want.equals(got)) {
            missed++;
            System.out.println(section + ": " + call + " answered " + got + ", due is " + want);
        }
    }

    static String times(String part, int n) {
        return part.repeat(n);
    }

    /** Four bytes of the text, the highest first; behind its end there are blanks. */
    static int word(String text, int at) {
        int made = 0;
        for (int i = at; i < at + 4; i++) {
            made = made << 8 | (i < text.length() ? text.charAt(i) & 255 : 32);
        }
        return made;
    }

    static void feed(Desk desk, String text) {
        for (int at = 0; at < text.length(); at += 20) {
            desk.feed(word(text, at), word(text, at + 4), word(text, at + 8), word(text, at + 12), word(text, at + 16));
        }
    }

    static int load(Desk desk, String text) {
        feed(desk, text);
        return desk.load(text.length());
    }

    static void dueRight(String text) {
        Desk desk = new Desk();
        due("load of " + text, load(desk, text), 0);
        due("told(0) of " + text, desk.told(0), NONE);
        due("told(1) of " + text, desk.told(1), NONE);
    }

    static void dueFault(String text, int place) {
        dueRefused(text, -2, place, 0);
    }

    static void dueWrong(String text, int number, int place) {
        dueRefused(text, -3, place, number);
    }

    private static void dueRefused(String text, int answer, int place, int number) {
        Desk desk = new Desk();
        due("load of " + text, load(desk, text), answer);
        due("told(0) of " + text, desk.told(0), place);
        due("told(1) of " + text, desk.told(1), number);
        due("count(0) of " + text, desk.count(0), NONE);
        due("solve() of " + text, desk.solve(), NONE);
    }

    static Desk solved(String text, int answer) {
        Desk desk = new Desk();
        due("load of " + text, load(desk, text), 0);
        due("solve() of " + text, desk.solve(), answer);
        return desk;
    }

    static String solution(Desk desk, int k) {
        StringBuilder made = new StringBuilder();
        int size = desk.size(k);
        for (int i = 0; i < size; i++) {
            made.append((char) desk.letter(k, i));
        }
        return made.toString();
    }

    static String written(Desk desk, int k, int side) {
        StringBuilder made = new StringBuilder();
        int size = desk.side(k, side);
        for (int i = 0; i < size; i++) {
            made.append((char) desk.sideLetter(k, side, i));
        }
        return made.toString();
    }

    static void dueSolutions(String text, int fresh, String... solutions) {
        Desk desk = solved(text, 0);
        due("fresh() of " + text, desk.fresh(), fresh);
        due("count(1) of " + text, desk.count(1), solutions.length);
        for (int k = 0; k < solutions.length; k++) {
            due("size(" + k + ") of " + text, desk.size(k), solutions[k].length());
            dueText("solution " + k + " of " + text, solution(desk, k), solutions[k]);
        }
        due("size beyond of " + text, desk.size(solutions.length), NONE);
        for (int k = 0; k < desk.count(2); k++) {
            Desk sides = solved(text, 0);
            dueText("sides of eq " + k + " of " + text, written(sides, k, 0), written(sides, k, 1));
        }
    }

    static void dueNoUnifier(String text) {
        Desk desk = solved(text, 1);
        due("fresh() of " + text, desk.fresh(), NONE);
        due("size(0) of " + text, desk.size(0), NONE);
        due("letter(0, 0) of " + text, desk.letter(0, 0), NONE);
        due("side(0, 0) of " + text, desk.side(0, 0), NONE);
        due("sideLetter(0, 1, 0) of " + text, desk.sideLetter(0, 1, 0), NONE);
        due("solve() again of " + text, desk.solve(), 1);
    }

    // The first ^ in a marked text is taken out before it is fed: it marks the place that is due.

    static String plain(String marked) {
        int mark = marked.indexOf('^');
        return mark < 0 ? marked : marked.substring(0, mark) + marked.substring(mark + 1);
    }

    static void fault(String marked) {
        dueFault(plain(marked), marked.indexOf('^'));
    }

    static void wrong(int number, String marked) {
        dueWrong(plain(marked), number, marked.indexOf('^'));
    }

    static void dueNoFault(String text) {
        due("whether there is a fault in " + text, load(new Desk(), text) == -2 ? 1 : 0, 0);
    }

    static String declarations(String word, String letters) {
        StringBuilder made = new StringBuilder();
        for (char letter : letters.toCharArray()) {
            made.append(word).append(' ').append(letter).append(":i;");
        }
        return made.toString();
    }
}
