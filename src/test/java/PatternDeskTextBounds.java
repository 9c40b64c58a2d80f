import java.util.List;

/** The document's sentences on texts that name a boundary case (tokens, faults, what is wrong), on both sides of it. */
public final class PatternDeskTextBounds extends Dues {
    public static void main(String[] args) {
        everyByte();
        namesOfEightBytes();
        wordsAreNoNames();
        longestTokens();
        everyTokenEverywhere();
        faultAtTheEnd();
        deepTypes();
        deepTerms();
        deepBinders();
        deepMixtures();
        faultBeforeWrong();
        scopes();
        firstFromTheLeft();
        declaredAgain();
        meansNothing();
        otherArgument();
        otherSides();
        noPattern();
        tooManyDeclared();
        tooManyEquations();
        tooLargeTypes();
        firstOfItsItem();
        end("all boundaries of the texts hold");
    }

    // ---- Terms: bytes, tokens, the grammar

    private static boolean isBlank(int letter) {
        return letter == 9 || letter == 10 || letter == 13 || letter == 32;
    }

    private static boolean isLetter(int letter) {
        return letter >= 65 && letter <= 90 || letter >= 97 && letter <= 122;
    }

    private static boolean isDigit(int letter) {
        return letter >= 48 && letter <= 57;
    }

    private static void everyByte() {
        section("every byte: blanks, letters, digits, signs");
        for (int letter = 0; letter < 256; letter++) {
            String one = String.valueOf((char) letter);
            if (isBlank(letter)) {
                dueRight(one);
                dueRight("con a:i;" + one);
                dueRight("con" + one + "a:i;");
                fault("con " + one + "^:i;");
                dueRight("con a" + one + ":i;");
            } else {
                fault("^" + one);
                fault("con a:i;^" + one);
                if (isLetter(letter) && letter != 'o' && letter != 'i') {
                    dueRight("con " + one + ":i;");
                } else {
                    fault("con ^" + one + ":i;");
                }
                if (isLetter(letter) || isDigit(letter)) {
                    fault("^con" + one + "a:i;");
                    dueRight("con a" + one + ":i;");
                } else {
                    fault(letter == ':' ? "con a:^:i;" : "con a^" + one + ":i;");
                }
            }
        }
    }

    private static void namesOfEightBytes() {
        section("NAMEs of at most 8 bytes");
        String letters = "abcdefghjklmnpqrstuvwxyz";
        for (int n = 1; n <= letters.length(); n++) {
            String name = letters.substring(0, n);
            String digits = "Z" + times("7", n - 1);
            for (String one : List.of(name, digits)) {
                if (n <= 8) {
                    dueRight("con " + one + ":i;");
                    dueRight("met " + one + ":i;");
                    dueRight("eq \\" + one + ":i." + one + "=\\x:i.x;");
                    fault("con " + one + "^");
                } else {
                    fault("con ^" + one + ":i;");
                    fault("met ^" + one + ":i;");
                    fault("eq \\^" + one + ":i.x=\\x:i.x;");
                    fault("eq \\x:i.^" + one + "=\\x:i.x;");
                    fault("eq a ^" + one + "=a;");
                    fault("con ^" + one);
                    fault("^" + one);
                }
            }
        }
        // A WORD with more behind it is a NAME, and none beyond 8 bytes.
        dueRight("con conconco:i;");
        fault("con ^conconcon:i;");
        fault("^conaaaaaa:i;");
        // All 8 bytes count, and the longest are written whole.
        dueSolutions("con abcdefg1:i;con abcdefg2:i;met M:i;eq M=abcdefg2;", 0, "abcdefg2");
        dueSolutions("con abcdefg:i;con abcdefgh:i;met M:i;met N:i;eq M=abcdefgh;eq N=abcdefg;", 0, "abcdefgh", "abcdefg");
    }

    private static void wordsAreNoNames() {
        section("con, met, eq, o, i are WORDS");
        for (String word : List.of("con", "met", "eq", "o", "i")) {
            fault("con ^" + word + ":i;");
            fault("met ^" + word + ":i;");
            fault("eq \\^" + word + ":i.x=x;");
            fault("eq ^" + word + "=x;");
            fault("eq x ^" + word + "=x;");
            fault("eq x=^" + word + ";");
            String upper = word.toUpperCase(java.util.Locale.ROOT);
            for (String near : List.of(word + "0", word + word, "x" + word, upper, word + "X")) {
                dueRight("con " + near + ":i;eq " + near + "=" + near + ";");
            }
        }
        for (String part : List.of("co", "c", "on", "n", "me", "m", "e", "q", "et", "t")) {
            dueRight("con " + part + ":i;");
        }
        for (String type : List.of("a", "O", "I", "oo", "ii", "io", "i0", "con", "eq", "met")) {
            fault("con a:^" + type + ";");
        }
    }

    private static void longestTokens() {
        section("tokens are the longest that can be read");
        dueRight("con a:i->i;");
        fault("con a:i^- >i;");
        fault("con a:i^-->i;");
        fault("con a:i->^>i;");
        fault("con a:i^-");
        fault("con a:i^-;");
        fault("con a:i->^");
        fault("con a:i^>i;");
        fault("con a:i ^i;");
        fault("con a:^ii;");
        fault("^cona:i;");
        fault("^con1:i;");
        dueRight("con a1b2:i;");
        fault("con a ^1b2:i;");
        dueRight("con a:i;eq a=a;con\tb\n:\ri\n->\to ; ");
        dueRight("con a:i;con f:i->i;eq f(a)=f a;eq\\x:i.x=\\y:i.y;");
        fault("^eqa=a;");
        fault("eq ab^;");
    }

    private static final List<String> TOKENS =
            List.of("con", "met", "eq", "o", "i", "a", "(", ")", "\\", ":", ".", ";", "=", "->");
    private static final List<String> NO_TOKENS = List.of("$", "-", ">", "0a", "abcdefghj", "\0", "\u00ff", "_");

    /** Which tokens go on behind a beginning: with each other one, and with what is none, the fault is there. */
    private static void goesOn(String beginning, String... tokens) {
        String text = beginning + " ";
        for (String token : TOKENS) {
            if (!List.of(tokens).contains(token)) {
                fault(text + "^" + token);
            } else if (token.equals(";")) {
                dueNoFault(text + token);
            } else {
                fault(text + token + "^");
            }
        }
        for (String none : NO_TOKENS) {
            fault(text + "^" + none);
        }
        if (!List.of(tokens).contains("END")) {
            fault(beginning + "^");
            fault(text + "^");
        } else {
            dueNoFault(beginning);
            dueNoFault(text);
        }
    }

    private static void everyTokenEverywhere() {
        section("the first token with which no text goes on");
        goesOn("", "con", "met", "eq", "END");
        for (String word : List.of("con", "met")) {
            goesOn(word, "a");
            goesOn(word + " a", ":");
            goesOn(word + " a:", "o", "i", "(");
            goesOn(word + " a:o", "->", ";");
            goesOn(word + " a:i", "->", ";");
            goesOn(word + " a:i->", "o", "i", "(");
            goesOn(word + " a:i->o", "->", ";");
            goesOn(word + " a:(", "o", "i", "(");
            goesOn(word + " a:(i", "->", ")");
            goesOn(word + " a:(i->", "o", "i", "(");
            goesOn(word + " a:(i->o", "->", ")");
            goesOn(word + " a:((i)", "->", ")");
            goesOn(word + " a:(i)", "->", ";");
            goesOn(word + " a:i;", "con", "met", "eq", "END");
        }
        goesOn("eq", "a", "\\");
        goesOn("eq \\", "a");
        goesOn("eq \\x", ":");
        goesOn("eq \\x:", "o", "i", "(");
        goesOn("eq \\x:i", "->", ".");
        goesOn("eq \\x:i->", "o", "i", "(");
        goesOn("eq \\x:(i", "->", ")");
        goesOn("eq \\x:(i)", "->", ".");
        goesOn("eq \\x:i.", "a", "\\");
        goesOn("eq \\x:i.x", "a", "(", "=");
        goesOn("eq b", "a", "(", "=");
        goesOn("eq b b", "a", "(", "=");
        goesOn("eq b(", "a", "\\");
        goesOn("eq b(b", "a", "(", ")");
        goesOn("eq b(b b", "a", "(", ")");
        goesOn("eq b(\\x:i.x", "a", "(", ")");
        goesOn("eq b(b)", "a", "(", "=");
        goesOn("eq b(b(b)", "a", "(", ")");
        goesOn("eq b=", "a", "\\");
        goesOn("eq b=b", "a", "(", ";");
        goesOn("eq b=b b", "a", "(", ";");
        goesOn("eq b=b(", "a", "\\");
        goesOn("eq b=b(b", "a", "(", ")");
        goesOn("eq b=b(b)", "a", "(", ";");
        goesOn("eq b=\\x:i.x", "a", "(", ";");
        goesOn("eq b=b;", "con", "met", "eq", "END");
    }

    private static void faultAtTheEnd() {
        section("the fault lies at the end");
        String text = "con f:(i->i)->i;met M:i;eq f(\\x:i.x)=M;";
        for (int n = 0; n <= text.length(); n++) {
            Desk desk = new Desk();
            feed(desk, text);
            boolean whole = n == 0 || n == 16 || n == 24 || n == text.length();
            // A part of a word or of the arrow is no token of a text: there the fault lies at its start.
            int place = n < 3 ? 0 : n == 17 || n == 18 ? 16 : n == 25 ? 24 : n;
            place = n == 9 ? 8 : n == 13 ? 12 : place;
            due("load(" + n + ") of " + text, desk.load(n), whole ? 0 : -2);
            due("told(0) of " + n + " bytes of " + text, desk.told(0), whole ? NONE : place);
        }
    }

    // ---- Terms: what lies in at most 20

    /** A part n times, with the mark behind as many as may be had, and one: there the fault lies. */
    private static String deep(String part, int n, int most) {
        int before = Math.min(n, most + 1);
        return times(part, before) + "^" + times(part, n - before);
    }

    private static void deepTypes() {
        section("a TYPE may lie in at most 20");
        for (String start : List.of("con a:", "met a:", "eq \\x:")) {
            // The TYPE of a \ lies in a TERM already.
            int most = start.startsWith("eq") ? 19 : 20;
            String end = start.startsWith("eq") ? ".x=\\x:i.x;" : ";";
            for (int n = 17; n <= 23; n++) {
                String brackets = start + deep("(", n, most) + "i" + times(")", n) + end;
                String arrows = start + deep("o->", n, most) + "o" + end;
                if (n <= most) {
                    dueRight(plain(brackets));
                    dueWrong(plain(arrows), 6, start.length());
                } else {
                    fault(brackets);
                    fault(arrows);
                }
            }
        }
        // Each bracket and each arrow is one more; what is closed counts no more.
        dueNoFault("con a:" + times("(i->", 10) + "i" + times(")", 10) + ";");
        fault("con a:" + times("(i->", 10) + "(^i)" + times(")", 10) + ";");
        fault("con a:" + times("(i->", 10) + "i->^i" + times(")", 10) + ";");
        dueNoFault("con a:" + times("(", 20) + "i" + times(")", 20) + "->" + times("(", 19) + "i" + times(")", 19) + ";");
        fault("con a:" + times("(", 20) + "i" + times(")", 20) + "->" + times("(", 20) + "^i" + times(")", 20) + ";");
        // The bracket and the arrow are no fault themselves, what they lead to is.
        fault("con a:" + times("(", 21) + "^");
        fault("con a:" + times("(", 21) + "^)");
        fault("con a:" + times("(", 21) + "^$");
        fault("con a:" + times("i->", 21) + "^");
        fault("con a:" + times("i->", 21) + "^;");
        fault("con a:" + times("(", 20) + "^)");
    }

    private static void deepTerms() {
        section("a TERM may lie in at most 20");
        String start = "con f:i->i;con a:i;eq ";
        for (int n = 17; n <= 23; n++) {
            String left = start + deep("f(", n, 20) + "a" + times(")", n) + "=a;";
            String right = start + "a=" + deep("f(", n, 20) + "a" + times(")", n) + ";";
            if (n <= 20) {
                dueRight(plain(left));
                dueRight(plain(right));
            } else {
                fault(left);
                fault(right);
            }
        }
        // An ARG that is a NAME is no TERM.
        dueRight(start + times("f(", 20) + "f a" + times(")", 20) + "=a;");
        // What is closed counts no more: a second ARG, and the other side, begin anew.
        String deep = times("f(", 19) + "a" + times(")", 19);
        dueRight("con g:i->i->i;" + start + "g(" + deep + ")(" + deep + ")=a;");
        fault("con g:i->i->i;" + start + "g(" + deep + ")(" + times("f(", 20) + "^a" + times(")", 20) + ")=a;");
        dueRight(start + "f(" + deep + ")=f(" + deep + ");");
        fault(start + times("f(", 21) + "^");
        fault(start + times("f(", 21) + "^)");
        fault(start + times("f(", 20) + "^)");
    }

    private static void deepBinders() {
        section("the TYPE and the TERM of a \\ lie in one more");
        for (int n = 17; n <= 20; n++) {
            String binders = times("\\x:i.", n);
            dueRight("eq " + binders + "x=" + binders + "x;");
        }
        // The TYPE stands before the TERM, so that the fault is found there.
        fault("eq " + times("\\x:i.", 20) + "\\x:^i.x=x;");
        fault("eq " + times("\\x:i.", 20) + "\\x:^(i).x=x;");
        fault("eq \\x:i.x=" + times("\\x:i.", 20) + "\\x:^i.x;");
        fault("eq " + times("\\x:i.", 20) + "\\^.x=x;");
        fault("eq " + times("\\x:i.", 20) + "^=x;");
        dueNoFault("eq " + times("\\x:i.", 19) + "\\x:i.x=x;");
        dueNoFault("eq " + times("\\x:i.", 18) + "\\x:(i).x=x;");
        fault("eq " + times("\\x:i.", 19) + "\\x:(^i).x=x;");
        fault("eq " + times("\\x:i.", 19) + "\\x:i->^i.x=x;");
    }

    private static void deepMixtures() {
        section("TYPEs and TERMs are counted together");
        String pairs = times("\\x:i.f(", 10);
        dueNoFault("eq " + pairs + "x" + times(")", 10) + "=x;");
        fault("eq " + pairs + "f(^x)" + times(")", 10) + "=x;");
        fault("eq " + pairs + "\\x:^i.x" + times(")", 10) + "=x;");
        dueNoFault("eq " + times("\\x:i.", 10) + "\\x:" + times("(", 9) + "i" + times(")", 9) + ".x=x;");
        fault("eq " + times("\\x:i.", 10) + "\\x:" + times("(", 10) + "^i" + times(")", 10) + ".x=x;");
        dueNoFault("eq " + times("f(", 10) + "\\x:" + times("i->", 9) + "i.x" + times(")", 10) + "=x;");
        fault("eq " + times("f(", 10) + "\\x:" + times("i->", 10) + "^i.x" + times(")", 10) + "=x;");
        // The TYPE of a \ counts no more in its TERM.
        dueNoFault("eq \\x:" + times("(", 19) + "i" + times(")", 19) + "." + times("x(", 19) + "x" + times(")", 19) + "=x;");
        fault("eq \\x:" + times("(", 19) + "i" + times(")", 19) + "." + times("x(", 20) + "^x" + times(")", 20) + "=x;");
    }

    // ---- Terms: what is wrong

    private static void faultBeforeWrong() {
        section("what is wrong, in a text without a fault");
        wrong(1, "con a:i;con ^a:i;");
        fault("con a:i;con a:i;^;");
        fault("con a:i;con a:i;con^");
        wrong(2, "eq ^a=a;");
        fault("eq a=a;^$");
        fault("eq a=a^");
        wrong(6, "con a:^i->i->i->i->i->i;");
        fault("con a:i->i->i->i->i->i^");
        fault("con a:i->i->i->i->i->i;^a");
    }

    private static void scopes() {
        section("a NAME is the variable of the nearest \\ around it, else the constant or unknown");
        dueRight("eq \\x:o.\\x:i.x=\\y:o.\\y:i.y;");
        dueNoUnifier("eq \\x:i.\\x:i.x=\\x:i.\\y:i.x;");
        dueSolutions("eq \\x:i.\\x:i.x=\\y:i.\\x:i.x;", 0);
        wrong(4, "eq \\x:o.\\x:i.x^=\\x:o.\\y:i.x;");
        dueRight("con x:i;eq \\x:o.x=\\y:o.y;");
        wrong(4, "con x:i;eq \\y:o.x^=\\y:o.y;");
        // Behind the TERM of the \ its variable is gone.
        dueRight("con x:i;con f:(o->o)->i->i;eq f(\\x:o.x)x=x;");
        wrong(2, "con f:(o->o)->i->i;eq f(\\x:o.x)^x=x;");
        dueRight("con g:(i->i)->o->o;eq \\x:o.g(\\x:i.x)x=\\y:o.g(\\y:i.y)y;");
        wrong(3, "con g:(i->i)->o->o;eq \\x:i.g(\\x:i.x)^x=\\y:o.y;");
        wrong(2, "eq \\x:i.x=^x;");
        wrong(2, "con a:i;eq \\x:i.x=\\x:i.a;eq a=^x;");
        // An unknown's NAME may be bound too: then it is no unknown, and may have any ARG.
        dueRight("met M:i->i;con a:i;eq \\M:i->i.M a=\\M:i->i.M a;");
        wrong(5, "met M:i->i;con a:i;eq \\N:i->i.^M a=\\M:i->i.M a;");
    }

    private static void firstFromTheLeft() {
        section("the first that is come to, from the left to the right");
        wrong(1, "con a:i;con ^a:i;eq b=b;");
        wrong(2, "con a:i;eq ^b=b;con a:i;");
        wrong(2, "eq ^a=a;con a:i;");
        wrong(3, "con a:i;eq a ^a=b;");
        wrong(2, "con a:i;eq ^b=a a;");
        wrong(2, "con a:i;eq a ^b=a a;");
        wrong(3, "con a:i;eq a=a ^a;");
        wrong(4, "con a:i;con b:o;eq a^=b;eq c=c;");
        wrong(5, "met M:i->i;con a:i;eq ^M a=b;");
        wrong(2, "met M:i->i;con a:i;eq ^b=M a;");
        wrong(1, "con a:i;con ^a:i;con b:i->i->i->i->i->i;");
        wrong(6, "con b:^i->i->i->i->i->i;con a:i;con a:i;");
        wrong(2, "con a:i;eq ^b=a;eq \\x:i->i->i->i->i->i.x=a;");
    }

    private static void declaredAgain() {
        section("1: a NAME that is declared again");
        for (String first : List.of("con", "met")) {
            for (String second : List.of("con", "met")) {
                wrong(1, first + " a:i;" + second + " ^a:i;");
                wrong(1, first + " a:i;" + second + "  ^a : o;");
                wrong(1, first + " abcdefgh:i;con x:o;" + second + " ^abcdefgh:i;");
                dueRight(first + " abcdefgh:i;" + second + " abcdefgj:i;");
                dueRight(first + " abcdefgh:i;" + second + " abcdefg:i;");
                dueRight(first + " abcdefgh:i;" + second + " bbcdefgh:i;");
                dueRight(first + " a:i;" + second + " A:i;");
                dueRight(first + " a1:i;" + second + " a:i;");
            }
        }
        // The third of a NAME is not come to; a variable is not declared.
        wrong(1, "con a:i;con ^a:i;con a:i;");
        dueRight("con a:i;eq \\a:i.\\a:i.a=\\a:i.\\a:i.a;");
        dueRight("con a:i;eq \\b:i.b=\\b:i.b;con b:i;");
    }

    private static void meansNothing() {
        section("2: a NAME in a TERM that means nothing");
        wrong(2, "eq ^a=a;");
        wrong(2, "con a:i;eq a=^b;");
        wrong(2, "con f:i->i;eq f ^b=b;");
        wrong(2, "con f:i->i;eq f(^b)=b;");
        wrong(2, "con f:i->i;eq f( ^b )=b;");
        wrong(2, "con a:i;eq \\x:i.^y=a;");
        wrong(2, "con abcdefgh:i;eq ^abcdefg=abcdefgh;");
        wrong(2, "con abcdefg:i;eq ^abcdefgh=abcdefg;");
        wrong(2, "con a:i;eq ^A=a;");
        // It is come to before its ARGs, and before it is an ARG for which nothing is wanted.
        wrong(2, "eq ^a b=a;");
        wrong(2, "con a:i;eq a ^b=a;");
        wrong(2, "con a:i;eq a(^b)=a;");
        // What is declared further right means nothing yet.
        wrong(2, "eq ^a=a;con a:i;");
        dueRight("con a:i;eq a=a;");
    }

    private static void otherArgument() {
        section("3: an ARG of another type than wanted, or for which nothing is wanted");
        String start = "con f:i->o->i;con a:i;con b:o;con g:(i->i)->i;con k:i->i;";
        dueRight(start + "eq f a b=f a b;");
        wrong(3, start + "eq f a b ^a=a;");
        wrong(3, start + "eq f a b ^(a)=a;");
        wrong(3, start + "eq f ^b=a;");
        wrong(3, start + "eq f a ^a=a;");
        wrong(3, start + "eq f a ^( a )=a;");
        wrong(3, start + "eq f ^b a=a;");
        wrong(3, start + "eq f a=f ^f;");
        wrong(3, start + "eq a ^a=a;");
        wrong(3, start + "eq a=a ^a;");
        dueRight(start + "eq g k=g(\\x:i.x);");
        wrong(3, start + "eq g ^a=a;");
        wrong(3, start + "eq g ^(\\x:o.a)=a;");
        wrong(3, start + "eq g ^(\\x:i.b)=a;");
        wrong(3, start + "eq g ^(\\x:i.\\y:i.x)=a;");
        wrong(3, start + "eq g ^(k a)=a;");
        wrong(3, start + "eq g ^g=a;");
        // A TERM with fewer ARGs than its type wants has what is left.
        dueRight("con h:i->i->i;con g:(i->i)->i;con a:i;eq g(h a)=a;");
        wrong(3, "con h:i->i->i;con g:(i->i)->i;con a:i;eq g ^h=a;");
        wrong(3, "con h:i->i->i;con g:(i->i)->i;con a:i;eq g ^(h a a)=a;");
        // (i->i)->i is another type than i->i->i, but brackets make no difference.
        wrong(3, "con g:((i->i)->i)->i;con k:i->i->i;eq g ^k=g k;");
        dueRight("con g:((i->i)->i)->i;con k:((i)->(i))->(i);eq g k=g k;");
        dueRight("con g:(i->i->i)->i;con k:i->(i->i);eq g k=g k;");
        // A variable has the type of its \, an unknown its own.
        wrong(3, "con k:i->i;eq \\x:o.k ^x=k;");
        wrong(3, "met M:i->i;eq \\x:o.M ^x=M;");
        wrong(3, "eq \\x:i.x ^x=\\x:i.x;");
        dueRight("eq \\x:i->i.\\y:i.x y=\\x:i->i.x;");
        wrong(3, "eq \\x:i->i.\\y:i.x y ^y=\\x:i->i.x;");
        // Behind what is in it.
        wrong(2, start + "eq f(f a ^c)=a;");
        wrong(3, start + "eq f a(f ^b)=a;");
        wrong(3, start + "eq f ^(f a)=a;");
        wrong(3, start + "eq f ^(\\x:i.x)(z)=a;");
        wrong(3, "con a:i;met M:i->i;eq \\x:i.a ^(M x)=\\x:i.x;");
        wrong(5, "con a:i;met M:i->i;eq a(^M a)=a;");
    }

    private static void otherSides() {
        section("4: = between TERMs of other types");
        wrong(4, "con a:i;con b:o;eq a^=b;");
        wrong(4, "con a:i;con b:o;eq b ^= a;");
        dueRight("con a:i;con b:i;eq a=b;");
        wrong(4, "con f:i->i;con a:i;eq f^=f a;");
        wrong(4, "con f:i->i;con a:i;eq f a^=f;");
        dueRight("con f:i->i;con a:i;eq f a=a;");
        dueRight("con f:i->i;eq f=\\x:i.x;");
        wrong(4, "con f:i->i;eq f^=\\x:o.x;");
        wrong(4, "con f:i->i;eq f^=\\x:i.\\y:i.x;");
        wrong(4, "eq \\x:(i->i)->i.x^=\\x:i->i->i.x;");
        dueRight("eq \\x:i->(i->i).x=\\x:i->i->i.x;");
        wrong(4, "met M:o;con a:i;eq M^=a;");
        // Behind both.
        wrong(2, "con a:i;con b:o;eq a=^c;");
        wrong(3, "con a:i;con b:o;eq a=b ^b;");
        wrong(5, "con a:i;met M:i->o;eq a=^M a;");
        wrong(4, "con a:i;met M:i->o;eq \\x:i.a^=\\x:i.M x;");
    }

    private static void noPattern() {
        section("5: an ARG that is not, but for eta, a variable, or the same one twice");
        String start = "met M:i->i->i;con a:i;con f:i->i;met N:i;";
        dueRight(start + "eq \\x:i.\\y:i.M x y=\\x:i.\\y:i.M(y)(x);");
        wrong(5, start + "eq \\x:i.\\y:i.^M x x=\\x:i.\\y:i.a;");
        wrong(5, start + "eq \\x:i.\\y:i.^M y(y)=\\x:i.\\y:i.a;");
        wrong(5, start + "eq \\x:i.^M x a=\\x:i.a;");
        wrong(5, start + "eq \\x:i.^M a x=\\x:i.a;");
        wrong(5, start + "eq \\x:i.^M N x=\\x:i.a;");
        wrong(5, start + "eq \\x:i.^M(f x)x=\\x:i.a;");
        wrong(5, start + "eq \\x:i.^M x N=\\x:i.a;");
        // An unknown may have fewer ARGs; those that it has are looked at.
        dueRight(start + "eq M=M;eq \\x:i.M x=M;");
        wrong(5, start + "eq ^M a=f;");
        // A variable of the same NAME but of another \ is another.
        dueRight("met M:i->i;met K:(i->i)->i->i;eq \\x:i.M x=\\y:i.M y;eq \\x:i->i.\\y:i.K x y=\\y:i->i.\\x:i.K y x;");
        // Behind its ARGs, all of them.
        wrong(3, start + "eq \\x:i.M a ^f=\\x:i.a;");
        wrong(3, start + "eq \\x:i.M x x ^x=\\x:i.a;");
        wrong(2, start + "eq \\x:i.M a ^z=\\x:i.a;");
        wrong(5, "met M:i->i;eq \\x:i.M(^M(M x))=\\x:i.x;");
        wrong(5, start + "con g:i->i;eq \\x:i.g(^M x x)z=\\x:i.a;");
        noPatternButForEta();
    }

    private static void noPatternButForEta() {
        String start = "met M:(i->i)->i;con f:i->i;con a:i;";
        dueRight(start + "eq \\x:i->i.M x=\\x:i->i.M(\\y:i.x y);");
        dueRight(start + "eq \\x:i->i.M(x)=\\x:i->i.M(\\y:i.x(y));");
        wrong(5, start + "eq ^M f=a;");
        wrong(5, start + "eq ^M(\\y:i.f y)=a;");
        wrong(5, start + "eq ^M(\\y:i.y)=a;");
        wrong(5, start + "eq \\x:i->i.^M(\\y:i.x(x y))=\\x:i->i.a;");
        wrong(5, start + "eq \\x:i->i.^M(\\y:i.x a)=\\x:i->i.a;");
        wrong(5, start + "eq \\x:i->i.\\z:i.^M(\\y:i.x z)=\\x:i->i.\\z:i.a;");
        wrong(5, start + "eq \\z:i.^M(\\y:i.z)=\\z:i.a;");
        String two = "met M:(i->i->i)->i;con a:i;";
        dueRight(two + "eq \\x:i->i->i.M(\\y:i.x y)=\\x:i->i->i.M(\\y:i.\\z:i.x y z);");
        wrong(5, two + "eq \\x:i->i->i.^M(\\y:i.\\z:i.x z y)=\\x:i->i->i.a;");
        wrong(5, two + "eq \\x:i->i->i.^M(\\y:i.\\z:i.x y y)=\\x:i->i->i.a;");
        wrong(5, two + "eq \\x:i->i->i.^M(\\y:i.\\z:i.x z z)=\\x:i->i->i.a;");
        wrong(5, two + "eq \\x:i->i->i.^M(\\y:i.x a)=\\x:i->i->i.a;");
        String same = "met M:(i->i)->(i->i)->i;con a:i;";
        dueRight(same + "eq \\x:i->i.\\y:i->i.M x(\\z:i.y z)=M;");
        wrong(5, same + "eq \\x:i->i.^M x(\\z:i.x z)=\\x:i->i.a;");
        wrong(5, same + "eq \\x:i->i.^M(\\z:i.x z)(\\y:i.x y)=\\x:i->i.a;");
        String deep = "met M:((i->i)->i)->i;con a:i;";
        dueRight(deep + "eq \\x:(i->i)->i.M x=\\x:(i->i)->i.M(\\y:i->i.x(\\z:i.y z));");
        dueRight(deep + "eq \\x:(i->i)->i.M x=\\x:(i->i)->i.M(\\y:i->i.x y);");
        wrong(5, deep + "eq \\x:(i->i)->i.^M(\\y:i->i.x(\\z:i.z))=\\x:(i->i)->i.a;");
        wrong(5, deep + "eq \\x:(i->i)->i.^M(\\y:i->i.x(\\z:i.y(y z)))=\\x:(i->i)->i.a;");
        wrong(5, deep + "eq \\x:(i->i)->i.^M(\\y:i->i.y(x y))=\\x:(i->i)->i.a;");
    }

    private static void tooManyDeclared() {
        section("6: the ninth constant, the sixth unknown");
        String letters = "abcdefghjklmn";
        for (int n = 0; n <= 13; n++) {
            String constants = declarations("con", letters.substring(0, n));
            String unknowns = declarations("met", letters.substring(0, n));
            if (n <= 8) {
                dueRight(constants);
            } else {
                wrong(6, declarations("con", letters.substring(0, 8)) + "con ^" + constants.substring(68));
            }
            if (n <= 5) {
                dueRight(unknowns);
            } else {
                wrong(6, declarations("met", letters.substring(0, 5)) + "met ^" + unknowns.substring(44));
            }
        }
        // Each sort is counted by itself, wherever its items stand.
        dueRight(declarations("con", "abcdefgh") + declarations("met", "ABCDE"));
        dueRight(declarations("met", "ABCDE") + declarations("con", "abcdefgh"));
        dueRight(declarations("con", "abcd") + declarations("met", "ABC") + declarations("con", "efgh") + declarations("met", "DE"));
        wrong(6, declarations("con", "abcd") + declarations("met", "ABC") + declarations("con", "efgh") + "met D:i;con ^E:i;");
        wrong(6, declarations("met", "ABC") + declarations("con", "efgh") + "met D:i;met E:i;eq D=E;met ^F:i;");
    }

    private static void tooManyEquations() {
        section("6: the fifth eq");
        for (int n = 0; n <= 8; n++) {
            String text = "con a:i;" + times("eq a=a;", Math.min(n, 4)) + "^" + times("eq a=a;", Math.max(0, n - 4));
            if (n <= 4) {
                dueRight(plain(text));
            } else {
                wrong(6, text);
            }
        }
        wrong(6, "eq \\x:i.x=\\x:i.x;con a:i;" + times("eq a=a;", 3) + "met M:i;  ^eq M=M;");
        // An eq that is wrong is come to before the fifth.
        wrong(2, "con a:i;" + times("eq a=a;", 3) + "eq ^b=a;eq a=a;");
    }

    private static void tooLargeTypes() {
        section("6: a TYPE with more than 5 of o and i");
        String[] fits = {"i->i->i->i->i", "o->o->o->o->o", "o->i->o->i->o", "(i->i)->(i->i)->i", "((((i->i)->i)->i)->i)",
            "((i)->(((o)->i))->(i->i))"};
        String[] large = {"i->i->i->i->i->i", "o->o->o->o->o->o", "o->i->o->i->o->i", "(i->i)->(i->i)->i->o",
            "(((((i->i)->i)->i)->i)->i)", "((i)->(((o)->i))->(i->i->i))", "(i->i->i)->(i->i->i)"};
        for (String type : fits) {
            dueRight("con a:" + type + ";");
            dueRight("met a:" + type + ";");
            dueRight("eq \\x:" + type + ".x=\\y:" + type + ".y;");
        }
        for (String type : large) {
            wrong(6, "con a:^" + type + ";");
            wrong(6, "con a : ^" + type + ";");
            wrong(6, "met a:^" + type + ";");
            wrong(6, "eq \\x:^" + type + ".x=\\y:" + type + ".y;");
            wrong(6, "eq \\x:i.x=\\y: ^" + type + ".y;");
            wrong(6, "eq \\x:i.\\y:^" + type + ".x=\\x:i.\\y:i.y;");
            wrong(6, "con f:i->i;eq f(\\y:^" + type + ".y)=f;");
        }
        // Each TYPE is counted by itself, and TERMs may have larger types.
        dueRight("con a:i->i->i->i->i;con b:i->i->i->i->i;");
        dueRight("eq \\x:i->i->i->i->i.\\y:i->i->i->i->i.x=\\x:i->i->i->i->i.\\y:i->i->i->i->i.x;");
    }

    private static void firstOfItsItem() {
        section("6: first of all of its item, a TYPE in con, met behind 1");
        String large = "i->i->i->i->i->i";
        String eight = declarations("con", "abcdefgh");
        String five = declarations("met", "ABCDE");
        wrong(6, eight + "con ^a:i;");
        wrong(6, eight + "con ^k:" + large + ";");
        wrong(6, eight + "con ^a:" + large + ";");
        wrong(1, eight + "met ^a:i;");
        wrong(1, eight + "met ^a:" + large + ";");
        wrong(6, eight + "met k:^" + large + ";");
        wrong(6, five + "met ^A:i;");
        wrong(6, five + "met ^k:" + large + ";");
        wrong(6, five + "met ^A:" + large + ";");
        wrong(1, five + "con ^A:i;");
        wrong(1, five + "con ^A:" + large + ";");
        wrong(1, "con a:i;con ^a:" + large + ";");
        wrong(1, "met a:i;met ^a:" + large + ";");
        wrong(6, "con a:i;con b:^" + large + ";");
        String four = "con a:i;con f:i->i;" + times("eq a=a;", 4);
        wrong(6, four + "^eq z=a;");
        wrong(6, four + "^eq a=z;");
        wrong(6, four + "^eq a a=a;");
        wrong(6, four + "^eq a=f;");
        wrong(6, four + "^eq \\x:" + large + ".x=a;");
        // In an eq such a TYPE comes before all that is wrong in the item, also further left.
        String start = "con a:i;con f:i->i;met M:i->i;";
        wrong(6, start + "eq z=\\x:^" + large + ".x;");
        wrong(6, start + "eq a a=\\x:^" + large + ".x;");
        wrong(6, start + "eq M a=\\x:^" + large + ".x;");
        wrong(6, start + "eq a=\\x:^" + large + ".x;");
        wrong(6, start + "eq f(\\x:^" + large + ".z)=\\y:" + large + ".y;");
        // What is wrong in an item further left is come to before it.
        wrong(2, start + "eq a=^z;eq a=\\x:" + large + ".x;");
    }
}
