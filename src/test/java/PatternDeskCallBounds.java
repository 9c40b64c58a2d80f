import java.util.ArrayList;
import java.util.List;

/** The document's sentences on calls, solving and writing that name a boundary case, on both sides of it. */
public final class PatternDeskCallBounds extends Dues {
    private static final int LEAST = Integer.MIN_VALUE;
    private static final int GREATEST = Integer.MAX_VALUE;
    private static final int[] EDGES = {LEAST, LEAST + 1, -256, -2, -1, 0, 1, 2, 3, 4, 5, 6, 255, 256, GREATEST - 1, GREATEST};

    public static void main(String[] args) {
        theLastCall();
        manyDearCalls();
        manyTypes();
        manyLongForms();
        likeTexts();
        newObject();
        feedUpToFull();
        feedHighestByteFirst();
        feedRefused();
        loadBounds();
        loadEmptiesTheTape();
        loadRefused();
        sameButForEta();
        unifiers();
        mostGeneral();
        numbersAndOrders();
        howItIsWritten();
        writtenBrackets();
        fourThousandOfASolution();
        fourThousandOfASide();
        toldBounds();
        countBounds();
        solveWithoutText();
        freshBounds();
        sizeAndLetterBounds();
        sideBounds();
        refusedCallsChangeNothing();
        end("all boundaries of the calls hold");
    }

    /** Everything that an object can be asked without changing it, but for what is far inside long texts. */
    private static String answers(Desk desk) {
        StringBuilder made = new StringBuilder();
        made.append(desk.told(0)).append(' ').append(desk.told(1)).append(' ').append(desk.fresh());
        for (int what = 0; what < 3; what++) {
            made.append(' ').append(desk.count(what));
        }
        for (int k = 0; k < 2; k++) {
            made.append(' ').append(desk.size(k)).append(solution(desk, k));
            made.append(' ').append(desk.side(k, 0)).append(written(desk, k, 0));
            made.append(' ').append(desk.side(k, 1)).append(written(desk, k, 1));
        }
        return made.toString();
    }

    private static final String NO_TEXT = "-1 -1 -1 -1 -1 -1 -1 -1 -1 -1 -1 -1";

    // ---- What it is

    private static final String SMALL = "con f:i->i;met M:i->i;eq M=f;";

    private static Desk usedUpTo(int calls) {
        Desk desk = solved(SMALL, 0);
        while (desk.calls() < calls) {
            due("told(0)", desk.told(0), NONE);
        }
        return desk;
    }

    private static void theLastCall() {
        section("an object is used for at most 512 calls");
        int before = Desk.MOST_CALLS - 1;
        due("feed as the last call", usedUpTo(before).feed(1, 2, 3, 4, 5), 20);
        due("load(0) as the last call", usedUpTo(before).load(0), 0);
        due("load(1) as the last call", usedUpTo(before).load(1), NONE);
        due("told(1) as the last call", usedUpTo(before).told(1), NONE);
        due("count(1) as the last call", usedUpTo(before).count(1), 1);
        due("solve() as the last call", usedUpTo(before).solve(), 0);
        due("fresh() as the last call", usedUpTo(before).fresh(), 0);
        due("size(0) as the last call", usedUpTo(before).size(0), 8);
        due("letter(0, 7) as the last call", usedUpTo(before).letter(0, 7), '0');
        due("side(0, 1) as the last call", usedUpTo(before).side(0, 1), 8);
        due("sideLetter(0, 1, 4) as the last call", usedUpTo(before).sideLetter(0, 1, 4), 'f');
        Desk desk = usedUpTo(before - 13 - 1);
        String full = SMALL + times(" ", 240 - SMALL.length());
        due("load(240) late", load(desk, full), 0);
        due("solve() late", desk.solve(), 0);
        due("size(0) as the very last call", desk.size(0), 8);
    }

    /** What one text leaves behind in an object shows in no later text. */
    private static void manyDearCalls() {
        section("many dear calls on one object");
        String tower = "con f:i->i->i->i->i;met A:i;met B:i;met C:i;met D:i;met E:i;eq A=f(f B B B B)(f B B B B)B B;"
                + "eq B=f(f C C C C)(f C C C C)C C;eq C=f(f D D D D)(f D D D D)D D;eq D=f(f E E E E)E E E;";
        Desk desk = new Desk();
        for (int round = 0; desk.calls() < Desk.MOST_CALLS - 50; round++) {
            due("load in round " + round, load(desk, tower), 0);
            due("solve() in round " + round, desk.solve(), 0);
            due("fresh() in round " + round, desk.fresh(), 1);
            due("size(0) in round " + round, desk.size(0), NONE);
            due("size(1) in round " + round, desk.size(1), 3029);
            due("side(0, 1) in round " + round, desk.side(0, 1), NONE);
            due("side(1, 1) in round " + round, desk.side(1, 1), 3029);
            due("letter(1, 3028) in round " + round, desk.letter(1, 3028), ')');
            due("load of a fault in round " + round, load(desk, "con a:" + times("(", 30)), -2);
            due("told(0) in round " + round, desk.told(0), 27);
            due("load of what is wrong in round " + round, load(desk, "eq \\x:i.f=f;"), -3);
            due("told(0) in round " + round, desk.told(0), 8);
            due("load of another in round " + round, load(desk, SMALL), 0);
            due("solve() of another in round " + round, desk.solve(), 0);
            dueText("solution of another in round " + round, solution(desk, 0), "\\x0.f x0");
        }
    }

    /** All types of so many atoms, of o and i. */
    private static List<String> types(int atoms) {
        List<String> made = new ArrayList<>();
        if (atoms == 1) {
            made.add("o");
            made.add("i");
        }
        for (int left = 1; left < atoms; left++) {
            for (String from : types(left)) {
                for (String to : types(atoms - left)) {
                    made.add((left == 1 ? from : "(" + from + ")") + "->" + to);
                }
            }
        }
        return made;
    }

    /** An object that has held hundreds of types, NAMEs and variables answers as a new one does. */
    private static void manyTypes() {
        section("many types on one object");
        List<String> types = types(5);
        due("how many types there are", types.size(), 448);
        Desk desk = new Desk();
        for (int k = 0; desk.calls() < Desk.MOST_CALLS - 16; k++) {
            StringBuilder text = new StringBuilder();
            for (int j = 0; j < 10 && text.length() < 210; j++) {
                // 97 has no divisor in common with 448: no type comes twice.
                text.append(j % 2 == 0 ? "met m" : "con c").append(j).append(':').append(types.get((10 * k + j) * 97 % 448)).append(';');
            }
            Desk fresh = solved(text.toString(), 0);
            due("load of " + text, load(desk, text.toString()), 0);
            due("solve() of " + text, desk.solve(), 0);
            due("size(" + k % 4 + ") of " + text, desk.size(k % 4), fresh.size(k % 4));
        }
    }

    /** The same for long forms, which have far more parts than the text has NAMEs. */
    private static void manyLongForms() {
        section("many long forms on one object");
        String term = "k" + times("(g f)", 4);
        String text = "con f:(i->i)->i;con g:((i->i)->i)->i;con k:i->i->i->i->i;met M:i;eq M=" + term + ";eq " + term + "=" + term + ";";
        String want = "k" + times(" (g (\\x0.f (\\x1.x0 x1)))", 4);
        Desk desk = new Desk();
        while (desk.calls() < Desk.MOST_CALLS - 14) {
            due("load of " + text, load(desk, text), 0);
            due("solve() of " + text, desk.solve(), 0);
            due("size(0) of " + text, desk.size(0), want.length());
            due("side(1, 1) of " + text, desk.side(1, 1), want.length());
            due("sideLetter(1, 1, 99) of " + text, desk.sideLetter(1, 1, 99), byteOf(want, 99));
        }
    }

    /** Texts of one shape: what is asked of the second is not answered from the first. */
    private static void likeTexts() {
        section("texts that are alike on one object");
        Desk desk = new Desk();
        String text = "con a:i;con b:i;met M:i;eq M=";
        for (String name : new String[] {"a", "b", "b", "a"}) {
            due("load of " + text + name, load(desk, text + name + ";"), 0);
            due("solve()", desk.solve(), 0);
            due("letter(0, 0)", desk.letter(0, 0), name.charAt(0));
        }
        for (String name : new String[] {"a", "b", "b", "a"}) {
            due("load of " + text + name, load(desk, text + name + ";"), 0);
            due("solve()", desk.solve(), 0);
            due("sideLetter(0, 0, 0)", desk.sideLetter(0, 0, 0), name.charAt(0));
        }
        String orders = "met A:i->i->i->i;met B:i->i->i->i;eq \\x:i.\\y:i.\\z:i.A x y z=\\x:i.\\y:i.\\z:i.B ";
        String[] given = {"z y x", "x y z", "y z x", "x y z", "z x y"};
        String[] order = {"x2 x1 x0", "x0 x1 x2", "x2 x0 x1", "x0 x1 x2", "x1 x2 x0"};
        for (int k = 0; k < given.length; k++) {
            due("load of " + orders + given[k], load(desk, orders + given[k] + ";"), 0);
            due("solve()", desk.solve(), 0);
            dueText("solution of " + orders + given[k], solution(desk, 1), "\\x0.\\x1.\\x2.h0 " + order[k]);
        }
    }

    // ---- Promises 1 to 3: the tape

    private static void newObject() {
        section("1: an empty tape, no text");
        dueText("a new object", answers(new Desk()), NO_TEXT);
        due("the first feed", new Desk().feed(0, 0, 0, 0, 0), 20);
        due("load(0)", new Desk().load(0), 0);
        due("load(1)", new Desk().load(1), NONE);
        due("load(-1)", new Desk().load(-1), NONE);
        due("solve()", new Desk().solve(), NONE);
    }

    private static void feedUpToFull() {
        section("2: NONE when there would be more than 240");
        Desk desk = new Desk();
        for (int round = 0; round < 3; round++) {
            for (int n = 20; n <= 240; n += 20) {
                due("feed up to " + n, desk.feed(0x20202020, 0x20202020, 0x20202020, 0x20202020, 0x20202020), n);
            }
            due("feed up to 260", desk.feed(0, 0, 0, 0, 0), NONE);
            due("feed up to 260 again", desk.feed(-1, -1, -1, -1, -1), NONE);
            due("load(240)", desk.load(240), 0);
        }
        due("feed after load", desk.feed(0, 0, 0, 0, 0), 20);
    }

    private static void feedHighestByteFirst() {
        section("2: the highest byte of each first");
        Desk desk = new Desk();
        String text = "con abcdefgh:i->o;\n\t";
        due("feed", desk.feed(0x636f6e20, 0x61626364, 0x65666768, 0x3a692d3e, 0x6f3b0a09), 20);
        due("load(20) of " + text, desk.load(20), 0);
        // In each place one byte that is no token, the lowest and the highest ones among them.
        int[] strange = {0, 1, 0x7f, 0x80, 0xff};
        for (int place = 0; place < 20; place++) {
            for (int odd : strange) {
                String blanks = times(" ", place) + (char) odd + times(" ", 19 - place);
                dueFault(blanks, place);
            }
        }
    }

    private static void feedRefused() {
        section("2: a refused feed changes nothing");
        String full = "con a:i;" + times(" ", 232);
        Desk desk = new Desk();
        feed(desk, full);
        due("feed", desk.feed(0x24242424, 0x24242424, 0x24242424, 0x24242424, 0x24242424), NONE);
        due("load(260)", desk.load(260), NONE);
        due("load(240)", desk.load(240), 0);
        due("count(0)", desk.count(0), 1);
        desk.solve();
        String before = answers(desk);
        feed(desk, full);
        dueText("the answers after twelve feeds", answers(desk), before);
        due("feed", desk.feed(0, 0, 0, 0, 0), NONE);
        dueText("the answers after a refused feed", answers(desk), before);
    }

    private static void loadBounds() {
        section("3: n is 0 .. the number of bytes");
        for (int fed = 0; fed <= 240; fed += 20) {
            for (int n : new int[] {LEAST, -240, -1, fed + 1, fed + 20, 241, GREATEST}) {
                Desk desk = new Desk();
                feed(desk, times(" ", fed));
                due("load(" + n + ") of " + fed, desk.load(n), NONE);
                due("count(0)", desk.count(0), NONE);
                due("load(" + fed + ") of " + fed + " then", desk.load(fed), 0);
                due("count(0) then", desk.count(0), 0);
            }
            Desk none = new Desk();
            feed(none, times("$", fed));
            due("load(0) of " + fed, none.load(0), 0);
            due("count(0) of nothing", none.count(0), 0);
            due("count(1) of nothing", none.count(1), 0);
            due("count(2) of nothing", none.count(2), 0);
        }
        // Only the first n bytes are the text.
        String text = "con a:i;$";
        for (int n = 0; n <= text.length(); n++) {
            Desk desk = new Desk();
            feed(desk, text);
            due("load(" + n + ") of " + text, desk.load(n), n == 0 || n == 8 ? 0 : -2);
            due("told(0) of it", desk.told(0), n == 0 || n == 8 ? NONE : n == 9 ? 8 : n < 3 ? 0 : n);
        }
        // A text of all 240 bytes.
        dueRight(times(" ", 232) + "con a:i;");
        fault(times(" ", 233) + "con a:i^");
        dueRight(times(" ", 240));
        fault("con a:i" + times(" ", 233) + "^");
        fault("con a:i" + times(" ", 232) + "^-");
        fault("con " + times(" ", 228) + "abcdefgh^");
        fault("con " + times(" ", 227) + "^abcdefghj");
    }

    private static void loadEmptiesTheTape() {
        section("3: the tape is empty, and there is no text then");
        String[] texts = {"", "con a:i;", "con a:i", "con a:i;con a:i;"};
        int[] dues = {0, 0, -2, -3};
        for (int k = 0; k < texts.length; k++) {
            Desk desk = solved(SMALL, 0);
            feed(desk, texts[k] + times(" ", 40));
            due("load of " + texts[k], desk.load(texts[k].length()), dues[k]);
            due("load(1) behind " + texts[k], desk.load(1), NONE);
            due("fresh() behind " + texts[k], desk.fresh(), NONE);
            due("size(0) behind " + texts[k], desk.size(0), NONE);
            due("side(0, 0) behind " + texts[k], desk.side(0, 0), NONE);
            due("count(1) behind " + texts[k], desk.count(1), dues[k] == 0 ? 0 : NONE);
            due("solve() behind " + texts[k], desk.solve(), dues[k] == 0 ? 0 : NONE);
            due("feed behind " + texts[k], desk.feed(0, 0, 0, 0, 0), 20);
        }
    }

    private static void loadRefused() {
        section("3: a refused load changes nothing");
        String[] texts = {"", SMALL, "con a:i;con b:i;eq a=b;", "con a:i", "con a:i;con a:i;"};
        for (String text : texts) {
            Desk desk = new Desk();
            load(desk, text);
            desk.solve();
            feed(desk, "met N:i;eq N=N;");
            String before = answers(desk);
            for (int n : new int[] {LEAST, -1, 21, 240, GREATEST}) {
                due("load(" + n + ") behind " + text, desk.load(n), NONE);
            }
            dueText("the answers behind " + text, answers(desk), before);
            due("feed behind " + text, desk.feed(-1, -1, -1, -1, -1), 40);
            due("load(41) behind " + text, desk.load(41), NONE);
            due("the tape behind " + text, desk.load(15), 0);
            due("count(1) behind " + text, desk.count(1), 1);
            due("count(2) behind " + text, desk.count(2), 1);
        }
    }

    // ---- Solving

    private static void sameButForEta() {
        section("eta and NAMEs of variables make no difference");
        dueSolutions("con f:i->i;eq f=\\x:i.f x;", 0);
        dueSolutions("con f:i->i->i;eq f=\\x:i.f x;eq f=\\x:i.\\y:i.f x y;eq \\x:i.f x=\\x:i.\\y:i.f x y;", 0);
        dueSolutions("con g:(i->i)->i;con f:i->i;eq g f=g(\\x:i.f x);eq g=\\x:i->i.g(\\y:i.x y);", 0);
        dueSolutions("eq \\x:i.\\y:i.x=\\y:i.\\x:i.y;", 0);
        dueNoUnifier("eq \\x:i.\\y:i.x=\\x:i.\\y:i.y;");
        dueNoUnifier("con f:i->i->i;eq f=\\x:i.\\y:i.f y x;");
        dueNoUnifier("con f:i->i;eq f=\\x:i.x;");
        dueNoUnifier("con f:i->i;con g:i->i;eq f=g;");
        dueNoUnifier("con a:i;eq \\x:i.a=\\x:i.x;");
        dueNoUnifier("con a:i;eq \\x:i.x=\\x:i.a;");
        dueNoUnifier("con f:i->i;con a:i;eq \\x:i->i.f a=\\x:i->i.x a;");
        dueSolutions("eq \\x:(i->i)->i->i.x=\\x:(i->i)->i->i.\\y:i->i.\\z:i.x(\\z:i.y z)z;", 0);
    }

    private static void unifiers() {
        section("6: 0 there is a unifier, 1 there is none");
        dueSolutions("met M:i;eq M=M;", 1, "h0");
        dueNoUnifier("met M:i;con f:i->i;eq M=f M;");
        dueNoUnifier("met M:i;con f:i->i;eq f(f M)=M;");
        dueSolutions("met M:i->i;con f:i->i;eq \\x:i.f(M x)=\\x:i.f(M x);", 1, "\\x0.h0 x0");
        dueNoUnifier("met M:i->i;con f:i->i;eq \\x:i.\\y:i.M x=\\x:i.\\y:i.f(M x);");
        dueSolutions("met M:i;met N:i;con f:i->i;eq M=f N;", 1, "f h0", "h0");
        dueNoUnifier("met M:i;met N:i;con f:i->i;eq M=f N;eq N=f M;");
        dueSolutions("met M:i;met N:i;eq M=N;eq N=M;", 1, "h0", "h0");
        // A closed TERM has only the variables that the unknown stands before.
        dueSolutions("met M:i->i;eq \\x:i.M x=\\x:i.x;", 0, "\\x0.x0");
        dueNoUnifier("met M:i;eq \\x:i.M=\\x:i.x;");
        dueNoUnifier("met M:i->i;eq \\x:i.\\y:i.M x=\\x:i.\\y:i.y;");
        dueSolutions("met M:i->i;eq \\x:i.\\y:i.M y=\\x:i.\\y:i.y;", 0, "\\x0.x0");
        dueNoUnifier("met M:i;con f:i->i;eq \\x:i.M=\\x:i.f x;");
        dueNoUnifier("met M:(i->i)->i;con a:i;eq \\x:i->i.\\y:i.M x=\\x:i->i.\\y:i.x y;");
        dueSolutions("met M:(i->i)->i;con a:i;eq \\x:i->i.\\y:i.M x=\\x:i->i.\\y:i.x a;", 0, "\\x0.x0 a");
        // An unknown may stand on either side.
        dueSolutions("con f:i->i;met M:i->i;eq f=f;eq f=f;eq \\x:i.f(f x)=\\x:i.M x;", 0, "\\x0.f (f x0)");
        dueSolutions("con f:i->i;met M:i->i;eq f=f;eq f=f;eq \\x:i.M x=\\x:i.f(f x);", 0, "\\x0.f (f x0)");
        dueNoUnifier("con f:i->i;met M:i;eq f=f;eq f=f;eq \\x:i.f(f x)=\\x:i.M;");
        // All eqs together.
        dueSolutions("met M:i;con a:i;con b:i;eq M=a;eq a=M;", 0, "a");
        dueNoUnifier("met M:i;con a:i;con b:i;eq M=a;eq M=b;");
        dueNoUnifier("con a:i;con b:i;met M:i;eq a=a;eq M=a;eq M=M;eq a=b;");
        dueNoUnifier("con a:i;con b:i;met M:i;eq a=b;eq a=a;eq M=a;eq M=M;");
        dueSolutions("", 0);
        dueSolutions("con a:i;", 0);
    }

    private static void mostGeneral() {
        section("most general: what need not go stays");
        dueSolutions("met M:i->i->i;eq M=M;", 1, "\\x0.\\x1.h0 x0 x1");
        dueSolutions("met M:i->i->i;eq \\x:i.\\y:i.M x y=\\x:i.\\y:i.M y x;", 1, "\\x0.\\x1.h0");
        dueSolutions("met M:i->i->i;eq \\x:i.\\y:i.\\z:i.M x y=\\x:i.\\y:i.\\z:i.M x z;", 1, "\\x0.\\x1.h0 x0");
        dueSolutions("met M:i->i->i;eq \\x:i.\\y:i.\\z:i.M x y=\\x:i.\\y:i.\\z:i.M z y;", 1, "\\x0.\\x1.h0 x1");
        dueSolutions("met M:i->i;met N:i->i;eq \\x:i.\\y:i.M x=\\x:i.\\y:i.N y;", 1, "\\x0.h0", "\\x0.h0");
        dueSolutions("met M:i->i;met N:i->i;eq \\x:i.\\y:i.M x=\\x:i.\\y:i.N x;", 1, "\\x0.h0 x0", "\\x0.h0 x0");
        dueSolutions("met M:i->i->i;met N:i->i->i;eq \\x:i.\\y:i.\\z:i.M x y=\\x:i.\\y:i.\\z:i.N y z;", 1,
                "\\x0.\\x1.h0 x1", "\\x0.\\x1.h0 x0");
        dueSolutions("con f:i->i;met M:i;met N:i->i;eq \\x:i.M=\\x:i.f(N x);", 1, "f h0", "\\x0.h0");
        dueSolutions("con q:(i->i)->i;met M:i;met N:i->i->i;eq \\x:i.M=\\x:i.q(\\y:i.N x y);", 1,
                "q (\\x0.h0 x0)", "\\x0.\\x1.h0 x1");
    }

    private static void numbersAndOrders() {
        section("h0, h1, .. by where they come first, ARGs in the order in which their variables are bound");
        dueSolutions(declarations("met", "ABCDE"), 5, "h0", "h1", "h2", "h3", "h4");
        dueSolutions("met A:i;met B:i;met C:i;eq A=C;", 2, "h0", "h1", "h0");
        dueSolutions("con f:i->i->i;met A:i;met B:i;met C:i;eq A=f C B;", 2, "f h0 h1", "h1", "h0");
        dueSolutions("met A:i->i->i;met B:i->i->i;eq \\x:i.\\y:i.A x y=\\x:i.\\y:i.B y x;", 1,
                "\\x0.\\x1.h0 x0 x1", "\\x0.\\x1.h0 x1 x0");
        dueSolutions("met B:i->i->i;met A:i->i->i;eq \\x:i.\\y:i.A x y=\\x:i.\\y:i.B y x;", 1,
                "\\x0.\\x1.h0 x0 x1", "\\x0.\\x1.h0 x1 x0");
        dueSolutions("con q:(i->i)->i;met A:i->i;met B:i->i->i;eq A=\\x:i.q(\\y:i.B y x);", 1,
                "\\x0.q (\\x1.h0 x0 x1)", "\\x0.\\x1.h0 x1 x0");
        dueSolutions("con q:(i->i)->i;met B:i->i->i;met A:i->i;eq A=\\x:i.q(\\y:i.B y x);", 1,
                "\\x0.\\x1.h0 x0 x1", "\\x0.q (\\x1.h0 x1 x0)");
        // Where one comes again, its ARGs keep the order that they have where it came first.
        dueSolutions("con f:i->i->i;met A:i->i->i;met B:i->i->i;eq \\x:i.\\y:i.A x y=\\x:i.\\y:i.f(B y x)(B x y);", 1,
                "\\x0.\\x1.f (h0 x0 x1) (h0 x1 x0)", "\\x0.\\x1.h0 x1 x0");
        Desk desk = solved("met A:i;met B:i->i->i;eq \\x:i.\\y:i.B y x=\\x:i.\\y:i.B y x;", 0);
        dueText("a side", written(desk, 0, 0), "\\x0.\\x1.h1 x1 x0");
    }

    // ---- How it is written

    private static void dueSide(String text, String want) {
        Desk desk = solved(text, 0);
        due("side(0, 0) of " + text, desk.side(0, 0), want.length());
        due("side(0, 1) of " + text, desk.side(0, 1), want.length());
        dueText("side 0 of " + text, written(desk, 0, 0), want);
        dueText("side 1 of " + text, written(desk, 0, 1), want);
    }

    private static void howItIsWritten() {
        section("x0, x1, .. by how many \\ are around their own");
        for (int n = 1; n <= 20; n++) {
            StringBuilder around = new StringBuilder();
            for (int k = 0; k < n; k++) {
                around.append("\\x").append(k).append('.');
            }
            String binders = times("\\x:i.", n);
            dueSide("eq " + binders + "x=" + binders + "x;", around + "x" + (n - 1));
        }
        // Variables that eta makes are counted too, beyond those that a text can bind.
        String around = times("\\x:i.", 18);
        String head = "con c:((i->i)->i)->i->i;";
        StringBuilder made = new StringBuilder();
        for (int k = 0; k < 20; k++) {
            made.append("\\x").append(k).append('.');
        }
        dueSide(head + "eq " + around + "c=" + around + "c;", made + "c (\\x20.x18 (\\x21.x20 x21)) x19");
        dueSide("con c:i->i->i->i->i;eq c=c;", "\\x0.\\x1.\\x2.\\x3.c x0 x1 x2 x3");
        // A number begins anew where a \ is closed.
        dueSide("con g:(i->i)->(i->i)->i;eq g(\\x:i.x)(\\y:i.y)=g(\\y:i.y)(\\y:i.y);", "g (\\x0.x0) (\\x0.x0)");
        dueSide("con g:(i->i)->i->i;eq \\z:i.g(\\x:i.z)z=\\z:i.g(\\y:i.z)z;", "\\x0.g (\\x1.x0) x0");
    }

    private static void writtenBrackets() {
        section("an ARG is in brackets when it begins with \\ or has ARGs");
        dueSide("con f:i->i;con a:i;eq f a=f(a);", "f a");
        dueSide("con f:i->i;con a:i;eq f(f a)=f(f(a));", "f (f a)");
        dueSide("con g:(i->i)->i;con a:i;eq g(\\x:i.a)=g(\\x:i.a);", "g (\\x0.a)");
        dueSide("con g:(i->i)->i;con f:i->i;eq g f=g f;", "g (\\x0.f x0)");
        dueSide("con f:i->i;met M:i;eq f M=f M;", "f h0");
        dueSide("con f:i->i;met M:i->i;eq \\x:i.f(M x)=\\x:i.f(M x);", "\\x0.f (h0 x0)");
        // An unknown that lost all of its ARGs, or was given a term without, has no brackets.
        dueSide("con f:i->i;met M:i->i;eq \\x:i.\\y:i.f(M x)=\\x:i.\\y:i.f(M y);", "\\x0.\\x1.f h0");
        dueSide("con f:i->i;met M:i->i;eq \\x:i.f(M x)=\\x:i.f x;", "\\x0.f x0");
        dueSide("con f:i->i;met M:i;con a:i;eq f M=f(f a);", "f (f a)");
        dueSolutions("met M:(i->i)->i;", 1, "\\x0.h0 (\\x1.x0 x1)");
        dueSolutions("met M:i->(i->i)->i;", 1, "\\x0.\\x1.h0 x0 (\\x2.x1 x2)");
        dueSolutions("met M:(i->i->i)->i->i;", 1, "\\x0.\\x1.h0 (\\x2.\\x3.x0 x2 x3) x1");
        dueSolutions("met M:((i->i)->i->i)->i;", 1, "\\x0.h0 (\\x1.\\x2.x0 (\\x3.x1 x3) x2)");
        dueSolutions("met M:(i->(i->i)->i)->i;", 1, "\\x0.h0 (\\x1.\\x2.x0 x1 (\\x3.x2 x3))");
    }

    // ---- 4000 bytes

    private static final String TEN = "f(f P P P P)(f P P P P)P P";

    /** The solution of A has 3998 bytes and those of one name. */
    private static void fourThousandOfASolution() {
        section("8, 9: of more than 4000 bytes there is none");
        for (int n = 1; n <= 8; n++) {
            String name = times("c", n);
            String text = "con f:i->i->i->i->i;con a:i;con " + name + ":i;met A:i;met P:i;met Q:i;met R:i;"
                    + "eq R=f a a a a;eq Q=f R R R R;eq P=f Q Q Q Q;"
                    + "eq A=f(f P P P P)(f P P P P)(f P P P P)(f P P P(f P P P(f Q Q Q " + name + ")));";
            Desk desk = solved(text, 0);
            boolean fits = n <= 2;
            due("size(0) with " + name, desk.size(0), fits ? 3998 + n : NONE);
            due("side(3, 0) with " + name, desk.side(3, 0), fits ? 3998 + n : NONE);
            due("side(3, 1) with " + name, desk.side(3, 1), fits ? 3998 + n : NONE);
            int size = 3998 + n;
            int[] places = {0, 1, 2, size - 4, size - 3, size - 1, -1, size, 4000, 4001, LEAST, GREATEST};
            String there = "f (c))";
            for (int p = 0; p < places.length; p++) {
                int want = fits ? byteOf(there, p) : NONE;
                due("letter(0, " + places[p] + ") with " + name, desk.letter(0, places[p]), want);
                due("sideLetter(3, 0, " + places[p] + ") with " + name, desk.sideLetter(3, 0, places[p]), want);
                due("sideLetter(3, 1, " + places[p] + ") with " + name, desk.sideLetter(3, 1, places[p]), want);
            }
            due("size(1) with " + name, desk.size(1), 209);
            due("size(0) again with " + name, desk.size(0), fits ? 3998 + n : NONE);
            due("fresh() with " + name, desk.fresh(), 0);
        }
    }

    /** Both sides of the last eq have 3998 bytes and those of one name, where no solution has more than 1329. */
    private static void fourThousandOfASide() {
        section("10, 11: of more than 4000 bytes there is none");
        for (int n = 1; n <= 8; n++) {
            String name = times("c", n);
            String text = "con f:i->i->i->i->i;con a:i;con " + name + ":i;met A:i;met P:i;met Q:i;eq A=" + TEN + ";eq P="
                    + TEN.replace('P', 'Q') + ";eq Q=f a a a a;eq f A A A " + name + "=f A A A " + name + ";";
            Desk desk = solved(text, 0);
            boolean fits = n <= 2;
            int size = 3998 + n;
            for (int side = 0; side < 2; side++) {
                due("side(3, " + side + ") with " + name, desk.side(3, side), fits ? size : NONE);
                due("its first byte", desk.sideLetter(3, side, 0), fits ? 'f' : NONE);
                due("its last byte", desk.sideLetter(3, side, size - 1), fits ? 'c' : NONE);
                due("the byte behind", desk.sideLetter(3, side, size), NONE);
                due("byte 3999", desk.sideLetter(3, side, 3999), n == 2 ? 'c' : NONE);
                due("byte 4000", desk.sideLetter(3, side, 4000), NONE);
                due("side(0, " + side + ") with " + name, desk.side(0, side), 1329);
            }
            due("size(0) with " + name, desk.size(0), 1329);
            due("size(1) with " + name, desk.size(1), 129);
            due("size(2) with " + name, desk.size(2), 9);
        }
    }

    // ---- Promises 4 to 11: wrong inputs and refused calls

    private static void toldBounds() {
        section("4: told for others, and when there was neither");
        String[] texts = {"", "con a:i;", "^con", "con a:i;con a:i;"};
        int[] places = {NONE, NONE, 0, 12};
        int[] numbers = {NONE, NONE, 0, 1};
        for (int k = 0; k < texts.length; k++) {
            Desk desk = new Desk();
            load(desk, texts[k]);
            for (int what : EDGES) {
                due("told(" + what + ") of " + texts[k], desk.told(what), what == 0 ? places[k] : what == 1 ? numbers[k] : NONE);
            }
        }
        Desk none = new Desk();
        for (int what : EDGES) {
            due("told(" + what + ") of a new object", none.told(what), NONE);
            due("load(1) of a new object", none.load(1), NONE);
            due("told(" + what + ") behind a refused load", none.told(what), NONE);
        }
        section("4: told of the latest load()");
        Desk desk = new Desk();
        String[] after = {"$", "con a:i;eq a a=a;", "", "con a:i;met M:i->i;eq M a=a;", " con", "eq \\x:i.x=\\x:o.x;", "con a:i;"};
        int[] where = {0, 13, NONE, 22, 4, 9, NONE};
        int[] which = {0, 3, NONE, 5, 0, 4, NONE};
        for (int k = 0; k < after.length; k++) {
            load(desk, after[k]);
            due("told(0) of " + after[k], desk.told(0), where[k]);
            due("told(1) of " + after[k], desk.told(1), which[k]);
            desk.solve();
            due("told(0) behind solve()", desk.told(0), where[k]);
            due("told(1) behind solve()", desk.told(1), which[k]);
        }
    }

    private static void countBounds() {
        section("5: count for others, and when there is no text");
        String most = declarations("con", "abcdefgh") + declarations("met", "ABCDE") + times("eq A=a;", 4);
        int[] counts = {8, 5, 4};
        Desk full = new Desk();
        Desk none = new Desk();
        Desk empty = new Desk();
        load(full, most);
        empty.load(0);
        for (int what : EDGES) {
            boolean known = what >= 0 && what <= 2;
            due("count(" + what + ") of the most", full.count(what), known ? counts[what] : NONE);
            due("count(" + what + ") of an empty text", empty.count(what), known ? 0 : NONE);
            due("count(" + what + ") of no text", none.count(what), NONE);
        }
        load(full, "con");
        load(empty, "eq a=a;");
        for (int what : EDGES) {
            due("count(" + what + ") behind a fault", full.count(what), NONE);
            due("count(" + what + ") behind what is wrong", empty.count(what), NONE);
        }
    }

    private static void solveWithoutText() {
        section("6: NONE when there is no text");
        Desk desk = new Desk();
        due("solve() of a new object", desk.solve(), NONE);
        feed(desk, SMALL);
        due("solve() of a tape", desk.solve(), NONE);
        due("load", desk.load(SMALL.length()), 0);
        due("solve()", desk.solve(), 0);
        due("solve() again", desk.solve(), 0);
        load(desk, "con a:i;con b:i;eq a=b;");
        due("solve() without a unifier", desk.solve(), 1);
        due("solve() without a unifier again", desk.solve(), 1);
        load(desk, "con");
        due("solve() behind a fault", desk.solve(), NONE);
        load(desk, "eq a=a;");
        due("solve() behind what is wrong", desk.solve(), NONE);
        desk.load(0);
        due("solve() of an empty text", desk.solve(), 0);
    }

    private static void freshBounds() {
        section("7: NONE when there is none");
        Desk desk = new Desk();
        due("fresh() of a new object", desk.fresh(), NONE);
        load(desk, "met M:i;met N:i;");
        due("fresh() before solve()", desk.fresh(), NONE);
        desk.solve();
        due("fresh()", desk.fresh(), 2);
        load(desk, "met M:i;met N:i;");
        due("fresh() of the next text, the same one", desk.fresh(), NONE);
        load(desk, "con a:i;met M:i;eq M=a;");
        desk.solve();
        due("fresh() of none", desk.fresh(), 0);
        load(desk, "con a:i;con b:i;met M:i;eq a=b;");
        desk.solve();
        due("fresh() without a unifier", desk.fresh(), NONE);
        load(desk, "met");
        due("fresh() behind a fault", desk.fresh(), NONE);
        desk.load(0);
        desk.solve();
        due("fresh() of an empty text", desk.fresh(), 0);
    }

    private static int byteOf(String text, int i) {
        return i >= 0 && i < text.length() ? text.charAt(i) : NONE;
    }

    private static void sizeAndLetterBounds() {
        section("8, 9: NONE when there is none such");
        String[] wants = {"\\x0.f x0", "h0", "\\x0.\\x1.h1 x0 x1"};
        String text = "con f:i->i;met M:i->i;met N:i;met K:i->i->i;eq M=f;";
        int[] places = {LEAST, -1, 0, 1, 3, 4, 7, 8, 15, 16, 17, 4000, GREATEST};
        for (int k : EDGES) {
            Desk desk = solved(text, 0);
            String want = k >= 0 && k < wants.length ? wants[k] : "";
            due("size(" + k + ")", desk.size(k), want.isEmpty() ? NONE : want.length());
            for (int i : places) {
                due("letter(" + k + ", " + i + ")", desk.letter(k, i), byteOf(want, i));
            }
        }
        // One after the other and mixed with sides, in any order.
        Desk desk = solved(text, 0);
        for (int turn = 0; turn < 60; turn++) {
            int k = turn * 7 % 3;
            due("letter(" + k + ", " + turn % 9 + ")", desk.letter(k, turn % 9), byteOf(wants[k], turn % 9));
            due("sideLetter(0, 1, " + turn % 9 + ")", desk.sideLetter(0, 1, turn % 9), byteOf(wants[0], turn % 9));
            due("size(" + k + ")", desk.size((k + 1) % 3), wants[(k + 1) % 3].length());
        }
        Desk five = solved(declarations("met", "ABCDE"), 0);
        due("size(4) of five", five.size(4), 2);
        due("size(5) of five", five.size(5), NONE);
        due("letter(4, 1) of five", five.letter(4, 1), '4');
        due("letter(5, 0) of five", five.letter(5, 0), NONE);
    }

    private static void sideBounds() {
        section("10, 11: NONE likewise");
        String[] wants = {"\\x0.f x0", "a", "f a", "\\x0.\\x1.x0"};
        String text = "con f:i->i;con a:i;met M:i->i;eq M=f;eq a=a;eq f a=f a;eq \\x:i.\\y:i.x=\\x:i.\\y:i.x;";
        for (int k : EDGES) {
            Desk desk = solved(text, 0);
            for (int side : EDGES) {
                String want = k >= 0 && k < 4 && (side == 0 || side == 1) ? wants[k] : "";
                due("side(" + k + ", " + side + ")", desk.side(k, side), want.isEmpty() ? NONE : want.length());
                for (int i : new int[] {LEAST, -1, 0, 1, 2, 3, 8, 9, 10, 11, 4000, GREATEST}) {
                    due("sideLetter(" + k + ", " + side + ", " + i + ")", desk.sideLetter(k, side, i), byteOf(want, i));
                }
            }
        }
    }

    private static void refusedCallsChangeNothing() {
        section("refused calls change nothing");
        String[] texts = {"", SMALL, "con a:i;con b:i;met M:i;eq a=b;", "con a", "con a:i;con a:i;"};
        for (String text : texts) {
            for (int solves = 0; solves < 2; solves++) {
                Desk desk = new Desk();
                load(desk, text);
                for (int turn = 0; turn < solves; turn++) {
                    desk.solve();
                }
                String before = answers(desk);
                for (int k : new int[] {LEAST, -1, 5, 9, GREATEST}) {
                    due("load(" + k + ")", desk.load(k), NONE);
                    due("told(" + k + ")", desk.told(k), NONE);
                    due("count(" + k + ")", desk.count(k), NONE);
                    due("size(" + k + ")", desk.size(k), NONE);
                    due("letter(" + k + ", 0)", desk.letter(k, 0), NONE);
                    due("letter(0, " + (k == 5 ? -5 : -9) + ")", desk.letter(0, k == 5 ? -5 : -9), NONE);
                    due("side(" + k + ", 0)", desk.side(k, 0), NONE);
                    due("side(0, " + k + ")", desk.side(0, k), NONE);
                    due("sideLetter(0, " + k + ", 0)", desk.sideLetter(0, k, 0), NONE);
                    due("sideLetter(" + k + ", 1, 0)", desk.sideLetter(k, 1, 0), NONE);
                }
                dueText("the answers behind " + text, answers(desk), before);
            }
        }
    }
}
