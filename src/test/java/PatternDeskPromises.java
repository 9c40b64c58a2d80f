/** Each promise of the document by hand: ordinary inputs, the edges it names, and wrong inputs. */
public final class PatternDeskPromises extends Dues {
    public static void main(String[] args) {
        promise1NewObject();
        promise2Feed();
        promise3Load();
        promise3Tokens();
        promise3Depth();
        promise4Faults();
        promise4Wrong();
        promise4Order();
        promise4Sixes();
        promise4Told();
        promise5Count();
        promise6Solve();
        promise7Fresh();
        promise8Size();
        promise9Letter();
        promise10Side();
        promise11SideLetter();
        end("all promises hold");
    }

    private static void promise1NewObject() {
        section("promise 1");
        Desk desk = new Desk();
        due("NONE", PatternDesk.NONE, -1);
        for (int what = -1; what <= 3; what++) {
            due("told", desk.told(what), NONE);
            due("count", desk.count(what), NONE);
        }
        due("solve()", desk.solve(), NONE);
        due("fresh()", desk.fresh(), NONE);
        due("size(0)", desk.size(0), NONE);
        due("letter(0, 0)", desk.letter(0, 0), NONE);
        due("side(0, 0)", desk.side(0, 0), NONE);
        due("sideLetter(0, 0, 0)", desk.sideLetter(0, 0, 0), NONE);
        due("load(1)", desk.load(1), NONE);
        due("feed", desk.feed(0, 0, 0, 0, 0), 20);
    }

    private static void promise2Feed() {
        section("promise 2");
        Desk desk = new Desk();
        for (int n = 20; n <= 240; n += 20) {
            due("feed", desk.feed(0x20202020, 0x0a0d0920, 0x20202020, 0x20202020, 0x20202020), n);
        }
        due("feed beyond 240", desk.feed(0, 0, 0, 0, 0), NONE);
        due("feed beyond 240 again", desk.feed(0, 0, 0, 0, 0), NONE);
        due("load(241)", desk.load(241), NONE);
        due("load(240) of blanks", desk.load(240), 0);
        due("feed after load", desk.feed(-1, -1, -1, -1, -1), 20);
        due("load of bytes 255", desk.load(20), -2);
        due("told(0)", desk.told(0), 0);
        // "con " "a:i;" with the highest byte of each int first, and a negative int at the end.
        desk.feed(0x636f6e20, 0x613a693b, 0x20202020, 0x20202020, 0x80202020);
        due("load(16)", desk.load(16), 0);
        due("count(0)", desk.count(0), 1);
        desk.feed(0x636f6e20, 0x613a693b, 0x20202020, 0x20202020, 0x80202020);
        due("load(17)", desk.load(17), -2);
        due("told(0)", desk.told(0), 16);
    }

    private static void promise3Load() {
        section("promise 3");
        Desk desk = new Desk();
        due("load(0)", desk.load(0), 0);
        due("count(2)", desk.count(2), 0);
        feed(desk, "met M:i;");
        due("load(-1)", desk.load(-1), NONE);
        due("load(21)", desk.load(21), NONE);
        due("load(least)", desk.load(Integer.MIN_VALUE), NONE);
        due("load(greatest)", desk.load(Integer.MAX_VALUE), NONE);
        due("count(1) is as before", desk.count(1), 0);
        due("load(8)", desk.load(8), 0);
        due("count(1)", desk.count(1), 1);
        due("the tape is empty", desk.load(1), NONE);
        due("solve()", desk.solve(), 0);
        due("load(1) changes nothing", desk.load(1), NONE);
        due("fresh()", desk.fresh(), 1);
        feed(desk, "con");
        due("fresh() after a feed", desk.fresh(), 1);
        due("load(3)", desk.load(3), -2);
        due("no text", desk.count(0), NONE);
        due("no solution", desk.fresh(), NONE);
        due("the tape is empty after a fault", desk.load(1), NONE);
        due("told(0) is as before", desk.told(0), 3);
        feed(desk, "eq a=a;");
        due("load(7)", desk.load(7), -3);
        due("the tape is empty after a wrong text", desk.load(1), NONE);
        due("told(1) is as before", desk.told(1), 2);
        due("load(0) after a wrong text", desk.load(0), 0);
        due("told(1)", desk.told(1), NONE);
    }

    private static void promise3Tokens() {
        section("promise 3, tokens");
        dueRight("con a:i;");
        dueRight("\tcon\r\na : i ;\n");
        dueRight("con abcdefgh:i;");
        dueFault("con abcdefghi:i;", 4);
        dueFault("con a1234567b:i;", 4);
        dueRight("con Z9:i;con z9:i;con cons:i;con mete:o;con e:i;con q:i;con oo:o;con ii:i;");
        dueRight("con a:i;eq a=a;con O:o;con I:i;con Con:i;con MET:i;");
        dueFault("con 1a:i;", 4);
        dueFault("con a_b:i;", 5);
        dueFault("con con:i;", 4);
        dueFault("con met:i;", 4);
        dueFault("con eq:i;", 4);
        dueFault("con o:i;", 4);
        dueFault("con i:i;", 4);
        dueFault("con a:a;", 6);
        dueFault("con a:i- >i;", 7);
        dueFault("con a:i-", 7);
        dueFault("con a:i>i;", 7);
        dueFault("cona:i;", 0);
        dueFault("con a:oi;", 6);
        dueFault("con a:i;\0", 8);
        dueFault("con a:i;\u00e9", 8);
        dueFault("con a:i;\f", 8);
        dueFault("con a:i;\u000b", 8);
        dueFault("$", 0);
        dueFault("con a:i;[", 8);
        // The first that is no token does not hide a fault before it.
        dueFault("con a i $", 6);
        dueFault("con a:i abcdefghi", 8);
        dueRight("con f:i->i;con a:i;eq f a=f(a);eq\\x:i.f x=\\x:i.f(f x);");
        dueRight("con a:i->o;con b:i  ->  o;");
        dueRight("con a0:i;con b9:i;");
        // What lies behind the first n bytes, or lay there earlier, is not looked at.
        Desk desk = new Desk();
        due("load(11)", load(desk, "con a:i->i;"), 0);
        feed(desk, "con a:i->i;");
        due("load(8)", desk.load(8), -2);
        due("told(0)", desk.told(0), 7);
        due("load(16)", load(desk, "con abcdefghi:i;"), -2);
        due("told(0)", desk.told(0), 4);
        feed(desk, "con abcdefghi:i;");
        due("load(12)", desk.load(12), -2);
        due("told(0)", desk.told(0), 12);
    }

    private static void promise3Depth() {
        section("promise 3, depth");
        dueRight("con a:" + times("(", 20) + "i" + times(")", 20) + ";");
        dueFault("con a:" + times("(", 21) + "i" + times(")", 21) + ";", 27);
        dueFault("con a:" + times("(", 22) + "i" + times(")", 22) + ";", 27);
        // Each TYPE behind an arrow lies in the one before: the 21st arrow leads to the fault.
        dueWrong("con a:i" + times("->i", 20) + ";", 6, 6);
        dueFault("con a:i" + times("->i", 21) + ";", 69);
        dueFault("con a:i->" + times("(", 20) + "i" + times(")", 20) + ";", 29);
        dueRight("con a:i->" + times("(", 19) + "i" + times(")", 19) + ";");
        String head = "con f:i->i;con a:i;eq ";
        dueRight(head + times("f(", 20) + "a" + times(")", 20) + "=a;");
        dueRight(head + times("f(", 20) + "f a" + times(")", 20) + "=a;");
        dueFault(head + times("f(", 21) + "a" + times(")", 21) + "=a;", 22 + 42);
        dueFault(head + times("f(", 21) + times(")", 21) + "=a;", 22 + 42);
        String binders = times("\\x:i.", 20);
        dueRight("eq " + binders + "x=" + binders + "x;");
        // The TYPE of a \ lies in the \ and in all around it.
        dueFault("eq " + binders + "\\x:i.x=x;", 3 + 103);
        dueFault("con f:(i->i)->i;eq " + times("\\x:i.", 19) + "f(\\x:i.x)=x;", 19 + 95 + 5);
        dueRight("con f:i->i;eq " + times("\\x:i.", 19) + "f(x)=" + times("\\x:i.", 19) + "x;");
        dueRight("eq \\x:" + times("(", 19) + "i" + times(")", 19) + ".x=\\x:i.x;");
        dueFault("eq \\x:" + times("(", 20) + "i" + times(")", 20) + ".x=\\x:i.x;", 26);
        // A fault at what lies too deep comes before one behind it, and behind one before it.
        dueFault("con a:" + times("(", 21) + ")", 27);
        dueFault("con a:" + times("(", 20) + ")", 26);
    }

    private static void promise4Faults() {
        section("promise 4, faults");
        dueFault("con", 3);
        dueFault("con ", 4);
        dueFault("  con a:i;  x", 12);
        dueFault("con a", 5);
        dueFault("con a:", 6);
        dueFault("con a:i", 7);
        dueFault("con a:i  ", 9);
        dueFault("con a:i->;", 9);
        dueFault("con a:();", 7);
        dueFault("con a:(i;", 8);
        dueFault("con a:i);", 7);
        dueFault("con a:i i;", 8);
        dueFault("con a b:i;", 6);
        dueFault(";", 0);
        dueFault("con a:i;;", 8);
        dueFault("a", 0);
        dueFault("met M=i;", 5);
        dueFault("eq ;", 3);
        dueFault("eq =a;", 3);
        dueFault("eq a=;", 5);
        dueFault("eq a;", 4);
        dueFault("eq a=a=a;", 6);
        dueFault("eq a:i;", 4);
        dueFault("eq (a)=a;", 3);
        dueFault("eq a=(a);", 5);
        dueFault("eq a \\x:i.x=a;", 5);
        dueFault("eq a (b=a;", 7);
        dueFault("eq a ()=a;", 6);
        dueFault("eq a ((b))=a;", 6);
        dueFault("eq a b)=a;", 6);
        dueFault("eq \\x.x=a;", 5);
        dueFault("eq \\x:i x=a;", 8);
        dueFault("eq \\x:.x=a;", 6);
        dueFault("eq \\:i.x=a;", 4);
        dueFault("eq \\o:i.x=a;", 4);
        dueFault("eq \\x:i.=a;", 8);
        dueFault("eq \\x:i.\\y:i=a;", 12);
        dueFault("eq a o=a;", 5);
        // A fault counts before all that is wrong, even behind it.
        dueFault("eq a=a; con", 11);
        dueFault("con a:i;con a:i;eq", 18);
    }

    private static void promise4Wrong() {
        section("promise 4, wrong");
        dueWrong("con a:i;con b:i;con a:o;", 1, 20);
        dueWrong("met a:i;con a:i;", 1, 12);
        dueWrong("met a:i;met a:i;", 1, 12);
        dueRight("con a:i;con A:i;eq \\a:o.a=\\A:o.A;");
        dueWrong("eq x=x;", 2, 3);
        dueWrong("con a:i;eq \\x:i.y=\\x:i.x;", 2, 16);
        dueWrong("con a:i;eq a=\\x:i.b;", 2, 18);
        dueWrong("con f:i->i;eq f b=b;", 2, 16);
        dueWrong("eq a=a;con a:i;", 2, 3);
        dueWrong("con f:(i->i)->i;eq f(\\x:i.x)=f x;", 2, 31);
        dueWrong("con f:i->o;con a:o;eq f a=a;", 3, 24);
        dueWrong("con f:i->o;con a:o;eq f (a)=a;", 3, 24);
        dueWrong("con f:i->o;con a:o;eq f ( a )=a;", 3, 24);
        dueWrong("con a:i;eq a (a)=a;", 3, 13);
        dueWrong("con f:i->o;con a:i;eq f a a=f a;", 3, 26);
        dueWrong("con f:(i->i)->o;con a:i;eq f a=f(\\x:i.x);", 3, 29);
        dueWrong("con f:(i->i)->o;eq f(\\x:o.x)=f(\\x:i.x);", 3, 20);
        dueWrong("con f:(i->i)->o;eq f(\\x:i.\\y:i.x)=f(\\x:i.x);", 3, 20);
        dueRight("con f:(i->i)->o;con g:i->i;eq f g=f(\\x:i.g x);");
        dueRight("con f:(i->i)->o;con g:i->i->i;con a:i;eq f(g a)=f(\\x:i.g a x);");
        dueWrong("con a:i;con b:o;eq a=b;", 4, 20);
        dueWrong("con a:i;eq \\x:i.x=a;", 4, 17);
        dueWrong("eq \\x:i.\\y:o.x=\\x:o.\\y:i.y;", 4, 14);
        dueWrong("eq \\x:(i->i)->i.x=\\x:i->i->i.x;", 4, 17);
        dueRight("eq \\x:(i)->(i->i).x=\\x:i->i->i.x;");
        dueRight("eq \\x:(i->o)->i->o.\\z:i->o.\\y:i.x z y=\\x:(i->o)->i->o.x;");
        dueWrong("met M:i->i;con a:i;eq M a=a;", 5, 22);
        dueWrong("met M:i->i;met N:i;eq M N=N;", 5, 22);
        dueWrong("met M:i->i;eq \\x:i.M(M x)=\\x:i.x;", 5, 19);
        dueWrong("met M:i->i->i;eq \\x:i.M x x=\\x:i.x;", 5, 22);
        dueWrong("met M:(i->i)->(i->i)->i;eq \\x:i->i.M x(\\y:i.x y)=\\x:i->i.M x x;", 5, 35);
        dueWrong("met M:(i->i)->i;eq M(\\y:i.y)=M(\\y:i.y);", 5, 19);
        dueWrong("met M:(i->i)->i;con g:i->i;eq M g=M g;", 5, 30);
        dueWrong("met M:(i->i)->i;eq \\x:i->i.\\z:i.M(\\y:i.x z)=\\x:i->i.\\z:i.z;", 5, 32);
        dueWrong("met M:(i->i)->i;eq \\f:i->i->i.\\z:i.M(f z)=\\f:i->i->i.\\z:i.z;", 5, 35);
        dueWrong("met M:(i->i->i)->i;eq \\x:i->i->i.M(\\y:i.\\z:i.x z y)=\\x:i->i->i.M x;", 5, 33);
        dueRight("met M:(i->i->i)->i;eq \\x:i->i->i.M(\\y:i.\\z:i.x y z)=\\x:i->i->i.M x;");
        dueRight("met M:(i->i->i)->i;eq \\x:i->i->i.M(\\y:i.x y)=\\x:i->i->i.M x;");
        dueRight("met M:((i->i)->i)->i;eq \\x:(i->i)->i.M(\\y:i->i.x(\\z:i.y z))=\\x:(i->i)->i.M x;");
        dueWrong("met M:((i->i)->i)->i;eq \\x:(i->i)->i.M(\\y:i->i.x(\\z:i.z))=\\x:(i->i)->i.M x;", 5, 37);
    }

    private static void promise4Order() {
        section("promise 4, order");
        // An item further left comes first, whatever its number.
        dueWrong("eq a=a;con b:i;con b:i;", 2, 3);
        // An ARG of another type is found before the pattern of the unknown, even in a later ARG.
        dueWrong("met M:i->i->i;con a:i;con b:o;eq M a b=a;", 3, 37);
        dueWrong("met M:i->i;con a:i;eq M a a=a;", 3, 26);
        // What is in an ARG is found before the ARG.
        dueWrong("con f:i->i;con g:i->o;eq f(g z)=f z;", 2, 29);
        dueWrong("con f:i->i;con a:o;eq f(f a)=f a;", 3, 26);
        dueWrong("met M:i->o;con f:i->i;con a:i;eq f(M a)=a;", 5, 35);
        // The ARG is found behind the unknown in it.
        dueWrong("met M:i->o;con f:i->i;eq \\x:i.f(M x)=\\x:i.x;", 3, 31);
        // The left TERM before the right one, both before the =.
        dueWrong("con a:i;con b:o;eq a a=c;", 3, 21);
        dueWrong("con a:i;con b:o;eq a=b b;", 3, 23);
        dueWrong("con a:i;con b:o;eq a=b;eq z=z;", 4, 20);
    }

    private static void promise4Sixes() {
        section("promise 4, number 6");
        String eight = "con a:i;con b:i;con c:i;con d:i;con e:i;con f:i;con g:i;con h:i;";
        String five = "met A:i;met B:i;met C:i;met D:i;met E:i;";
        String four = times("eq a=a;", 4);
        dueRight(eight + five + four);
        dueWrong(eight + "con k:i;", 6, 68);
        dueWrong(eight + "con a:i;", 6, 68);
        dueWrong(eight + "con k:i->i->i->i->i->i;", 6, 68);
        dueRight(eight + "met k:i;");
        dueWrong(eight + "met a:i;", 1, 68);
        dueWrong(five + "met F:i;", 6, 44);
        dueWrong(five + "met A:i;", 6, 44);
        dueRight(five + "con F:i;");
        dueWrong("con a:i;" + four + "eq a=a;", 6, 36);
        dueWrong("con a:i;" + four + "eq z=a;", 6, 36);
        dueWrong("con a:i;" + four + "  eq \\x:i->i->i->i->i->i.x=a;", 6, 38);
        dueRight("con a:i->i->i->i->o;met b:(((o->i)->i)->i)->i;");
        dueWrong("con a:i->i->i->i->i->o;", 6, 6);
        dueWrong("con a:((i->i)->(i->i))->i->o;", 6, 6);
        dueWrong("con a: (i->i->i->i->i->o);", 6, 7);
        dueWrong("con a:i;con a:i->i->i->i->i->i;", 1, 12);
        dueWrong("met a:i;met a:i->i->i->i->i->i;", 1, 12);
        dueWrong("con a:i;eq \\x:i->i->i->i->i->i.x=a;", 6, 14);
        // In an eq a TYPE that is too large is first of all, before what stands left of it.
        dueWrong("con a:i;eq z=\\x:i->i->i->i->i->i.x;", 6, 16);
        dueWrong("con a:i;eq a a=\\x:i.\\y:i->i->i->i->i->i.x;", 6, 23);
        dueWrong("con a:i;eq z=a;eq a=\\x:i->i->i->i->i->i.x;", 2, 11);
        // Terms may have types with more: only the TYPEs of the text count.
        dueRight("eq \\x:i->i->i->i->i.\\y:i.x=\\x:i->i->i->i->i.\\y:i.x;");
    }

    private static void promise4Told() {
        section("promise 4, told");
        Desk desk = new Desk();
        load(desk, "con a:i;con a:i;");
        for (int what : new int[] {-1, 2, 3, 6, Integer.MIN_VALUE, Integer.MAX_VALUE}) {
            due("told of another", desk.told(what), NONE);
        }
        due("told(0)", desk.told(0), 12);
        due("told(1)", desk.told(1), 1);
        feed(desk, "con a:i;");
        due("told(0) after a feed", desk.told(0), 12);
        due("load(8)", desk.load(8), 0);
        due("told(0) after a right load", desk.told(0), NONE);
        due("told(1) after a right load", desk.told(1), NONE);
    }

    private static void promise5Count() {
        section("promise 5");
        Desk desk = new Desk();
        load(desk, "con a:i;con b:i;met M:i;eq a=b;met N:i;eq M=N;eq a=M;con c:i;");
        due("count(0)", desk.count(0), 3);
        due("count(1)", desk.count(1), 2);
        due("count(2)", desk.count(2), 3);
        for (int what : new int[] {-1, 3, 4, Integer.MIN_VALUE, Integer.MAX_VALUE}) {
            due("count of another", desk.count(what), NONE);
        }
        due("solve()", desk.solve(), 1);
        due("count(0) after solve()", desk.count(0), 3);
        load(desk, "con a:i;");
        due("count(0) of the new text", desk.count(0), 1);
        due("count(1) of the new text", desk.count(1), 0);
        due("count(2) of the new text", desk.count(2), 0);
        load(desk, "con a:i;con a:i;");
        due("count(0) without text", desk.count(0), NONE);
    }

    private static void promise6Solve() {
        section("promise 6");
        dueSolutions("", 0);
        dueSolutions("con a:i;eq a=a;", 0);
        dueNoUnifier("con a:i;con b:i;eq a=b;");
        dueSolutions("con f:(i->i)->i;con g:i->i;eq f g=f(\\x:i.g x);eq \\f:i.f=\\y:i.y;", 0);
        dueNoUnifier("eq \\x:i.\\y:i.x=\\x:i.\\y:i.y;");
        dueNoUnifier("con f:i->i;con a:i;eq \\x:i->i.x a=\\x:i->i.f a;");
        dueSolutions("met M:i;con a:i;eq M=a;eq a=M;", 0, "a");
        dueNoUnifier("met M:i;con a:i;con b:i;eq M=a;eq M=b;");
        dueNoUnifier("met M:i;con f:i->i;eq M=f M;");
        dueNoUnifier("met M:i;met N:i;con f:i->i;eq M=f N;eq N=f M;");
        dueSolutions("met M:i->i;eq \\x:i.M x=\\x:i.x;", 0, "\\x0.x0");
        dueNoUnifier("met M:i;eq \\x:i.M=\\x:i.x;");
        dueNoUnifier("met M:i->i;con f:i->i->i;eq \\x:i.\\y:i.M x=\\x:i.\\y:i.f x y;");
        dueSolutions("met M:i->i;met N:i;con f:i->i->i;eq \\x:i.\\y:i.M x=\\x:i.\\y:i.f x N;", 1, "\\x0.f x0 h0", "h0");
        dueNoUnifier("met M:i->i;con f:i->i;eq \\x:i.\\y:i.M x=\\x:i.\\y:i.f(M y);");
        // What is given is narrowed through unknowns that were given before.
        dueSolutions("met M:i;met N:i->i;met K:i->i;con f:i->i;eq N=\\x:i.f(K x);eq \\x:i.M=\\x:i.N x;", 1,
                "f h0", "\\x0.f h0", "\\x0.h0");
        dueNoUnifier("met M:i;met N:i->i;con f:i->i;eq N=\\x:i.f x;eq \\x:i.M=\\x:i.N x;");
        dueNoUnifier("met M:i->i;met N:i;con g:i->i;eq \\x:i.x=\\x:i.M x;eq \\x:i.N=\\x:i.g(M x);");
        // Only the variables that what is given has are passed on.
        dueSolutions("con g:i->i;met K:i->i;met M:i->i->i;eq \\x:i.g x=\\x:i.K x;eq \\x:i.\\y:i.M x y=\\x:i.\\y:i.K x;", 0,
                "\\x0.g x0", "\\x0.\\x1.g x0");
        // A variable dropped earlier may not come back.
        dueNoUnifier("met M:i->i->i;con f:i->i;eq \\x:i.\\y:i.M x y=\\x:i.\\y:i.M y x;eq \\x:i.\\y:i.M x y=\\x:i.\\y:i.f x;");
        dueSolutions("met M:i->i->i;con a:i;eq \\x:i.\\y:i.M x y=\\x:i.\\y:i.M y x;eq \\x:i.\\y:i.M x y=\\x:i.\\y:i.a;", 0,
                "\\x0.\\x1.a");
        // A variable of the solution may be bound inside of what is given.
        dueSolutions("met M:i->i;con q:(i->i)->i;con f:i->i->i;eq \\x:i.M x=\\x:i.q(\\y:i.f y x);", 0,
                "\\x0.q (\\x1.f x1 x0)");
        // The same given unknown is met twice, and another variable is forbidden each time.
        dueSolutions("met M:i->i;met K:i->i->i;met N:i->i->i;con f:i->i->i;con g:i->i;eq\\x:i.\\y:i.K x y=\\x:i.\\y:i.g(N x y);"
                + "eq\\x:i.\\y:i.M x=\\x:i.\\y:i.f(K x y)(K y x);", 1,
                "\\x0.f (g h0) (g h0)", "\\x0.\\x1.g h0", "\\x0.\\x1.h0");
        // Each eq here narrows an unknown again, by one variable.
        String unknowns = "met A:i->i->i;met B:i->i->i;met C:i->i->i;met D:i->i->i;";
        dueSolutions("con g:i->i->i->i->i;" + unknowns
                + "eq\\x:i.\\y:i.\\z:i.g(A x y)(A x y)(B x y)(B x y)=\\x:i.\\y:i.\\z:i.g(A x z)(A z y)(B z y)(B x z);"
                + "eq\\x:i.\\y:i.\\z:i.C x y=\\x:i.\\y:i.\\z:i.C x z;", 4,
                "\\x0.\\x1.h0", "\\x0.\\x1.h1", "\\x0.\\x1.h2 x0", "\\x0.\\x1.h3 x0 x1");
        dueSolutions("con g:i->i->i->i->i;met M:i->i->i->i->i;eq\\v:i.\\w:i.\\x:i.\\y:i.\\z:i.g(M w x y z)(M w x y z)(M w x y z)w="
                + "\\v:i.\\w:i.\\x:i.\\y:i.\\z:i.g(M w x y v)(M w x v z)(M v x y z)w;", 1, "\\x0.\\x1.\\x2.\\x3.h0 x1");
        Desk desk = solved("met M:i;", 0);
        due("solve() again", desk.solve(), 0);
        load(desk, "con a:i;con b:i;eq a=b;");
        due("fresh() of a text that is not solved yet", desk.fresh(), NONE);
        due("solve() of the next text", desk.solve(), 1);
    }

    private static void promise7Fresh() {
        section("promise 7");
        Desk desk = new Desk();
        load(desk, "met M:i;met N:i;met K:o;eq M=N;");
        due("fresh() before solve()", desk.fresh(), NONE);
        desk.solve();
        due("fresh()", desk.fresh(), 2);
        load(desk, "met M:i;");
        due("fresh() of the next text", desk.fresh(), NONE);
        desk.solve();
        due("fresh() then", desk.fresh(), 1);
        load(desk, "con a:i;");
        desk.solve();
        due("fresh() of none", desk.fresh(), 0);
        dueSolutions("met A:i;met B:i;met C:i;met D:i;met E:i;", 5, "h0", "h1", "h2", "h3", "h4");
        dueSolutions("met A:i->i;met B:i;con f:i->i->i->i->i;met C:i->i;met D:i->i;met E:i->i;"
                + "eq \\x:i.A x=\\x:i.f B(C x)(D x)(E x);", 4,
                "\\x0.f h0 (h1 x0) (h2 x0) (h3 x0)", "h0", "\\x0.h1 x0", "\\x0.h2 x0", "\\x0.h3 x0");
    }

    private static void promise8Size() {
        section("promise 8");
        dueSolutions("met M:i->i->i;", 1, "\\x0.\\x1.h0 x0 x1");
        dueSolutions("met M:(i->i)->i;", 1, "\\x0.h0 (\\x1.x0 x1)");
        dueSolutions("met M:((i->i)->i)->i->i;", 1, "\\x0.\\x1.h0 (\\x2.x0 (\\x3.x2 x3)) x1");
        dueSolutions("met M:(((i->i)->i)->i)->i;", 1, "\\x0.h0 (\\x1.x0 (\\x2.x1 (\\x3.x2 x3)))");
        dueSolutions("met M:(i->i->i)->i;", 1, "\\x0.h0 (\\x1.\\x2.x0 x1 x2)");
        dueSolutions("con c:(((i->i)->i)->i)->i;met M:(((i->i)->i)->i)->i;eq c=M;", 0,
                "\\x0.c (\\x1.x0 (\\x2.x1 (\\x3.x2 x3)))");
        dueSolutions("met M:(i->i)->i->i;con f:i->i;eq M=\\x:i->i.f;", 0, "\\x0.\\x1.f x1");
        dueSolutions("met M:(i->i)->i->i;eq M=\\x:i->i.x;", 0, "\\x0.\\x1.x0 x1");
        dueSolutions("met M:i->i;con f:(i->i)->i;con g:i->i->i;eq \\y:i.f(g y)=\\z:i.M z;", 0, "\\x0.f (\\x1.g x0 x1)");
        dueSolutions("con f:i->i->i;met M:i->i->i;eq \\x:i.\\y:i.M y x=\\x:i.\\y:i.f x y;", 0, "\\x0.\\x1.f x1 x0");
        dueSolutions("met M:i->i->i;met N:i->i->i;eq \\x:i.\\y:i.M x y=\\x:i.\\y:i.N y x;", 1,
                "\\x0.\\x1.h0 x0 x1", "\\x0.\\x1.h0 x1 x0");
        dueSolutions("met M:i->i->i;met N:i->i;eq \\x:i.\\y:i.M x y=\\x:i.\\y:i.N y;", 1, "\\x0.\\x1.h0 x1", "\\x0.h0 x0");
        dueSolutions("met M:i->i;met N:i->i;eq \\x:i.\\y:i.M x=\\x:i.\\y:i.N y;", 1, "\\x0.h0", "\\x0.h0");
        dueSolutions("met M:i->i->i->i;eq \\x:i.\\y:i.\\z:i.M x y z=\\x:i.\\y:i.\\z:i.M z y x;", 1,
                "\\x0.\\x1.\\x2.h0 x1");
        // Numbers go by the first place in the solutions, not by the text.
        dueSolutions("met N:i->i;met M:i->i->i;con f:i->i->i;met K:i;eq \\x:i.N x=\\x:i.f K(f K x);", 2,
                "\\x0.f h0 (f h0 x0)", "\\x0.\\x1.h1 x0 x1", "h0");
        // ARGs stand in the order of their binders where the unknown comes first.
        dueSolutions("met A:i->i->i;met B:i->i->i;con q:(i->i)->i;met C:i->i;eq \\x:i.C x=\\x:i.q(\\y:i.B y x);", 2,
                "\\x0.\\x1.h0 x0 x1", "\\x0.\\x1.h1 x0 x1", "\\x0.q (\\x1.h1 x1 x0)");
        dueSolutions("met C:i->i;met B:i->i->i;con q:(i->i)->i;eq \\x:i.C x=\\x:i.q(\\y:i.B y x);", 1,
                "\\x0.q (\\x1.h0 x0 x1)", "\\x0.\\x1.h0 x1 x0");
        dueSolutions("met C:i->i->i;met B:i->i->i->i;con q:(i->i)->i;eq \\x:i.\\y:i.C x y=\\x:i.\\y:i.q(\\z:i.B z y x);", 1,
                "\\x0.\\x1.q (\\x2.h0 x0 x1 x2)", "\\x0.\\x1.\\x2.h0 x2 x1 x0");
        Desk desk = solved("met M:i;", 0);
        for (int k : new int[] {-1, 1, 5, Integer.MIN_VALUE, Integer.MAX_VALUE}) {
            due("size(" + k + ")", desk.size(k), NONE);
        }
        load(desk, "met M:i;");
        due("size(0) before solve()", desk.size(0), NONE);
        sizesAtTheBound();
    }

    /** Solutions that double: 4000 bytes are written, more are not. */
    private static void sizesAtTheBound() {
        String shape = "con f:i->i->i->i->i;met A:i;met B:i;met C:i;met D:i;";
        Desk desk = solved(shape + "eq A=f B B B B;eq B=f C C C C;eq C=f D D D D;", 0);
        int third = 1 + 4 * 3;
        int second = 1 + 4 * (third + 3);
        due("size(2)", desk.size(2), third);
        due("size(1)", desk.size(1), second);
        due("size(0)", desk.size(0), 1 + 4 * (second + 3));
        // A byte more or less in a constant's name decides.
        dueBound("c", 3999, 3999);
        dueBound("cc", 4000, 4000);
        dueBound("ccc", 4001, NONE);
        dueBound("cccccccc", 4006, NONE);
        // Unknowns are numbered through solutions that are too long to be written.
        Desk open = solved("con f:i->i->i->i->i;met A:i;met N:i;met M:i;met P:i;met Q:i;eq P=f Q Q Q Q;"
                + "eq Q=" + BLOCK.replace('P', 'M') + ";eq A=f(f P P P P)(f P P P P)(f P P P P)P;eq N=N;", 0);
        due("size(0) of the open one", open.size(0), NONE);
        due("fresh() of the open one", open.fresh(), 2);
        dueText("N behind it", solution(open, 1), "h1");
        dueText("M in it", solution(open, 2), "h0");
        // A side may be too long where no solution is.
        Desk sides = solved("con f:i->i->i->i->i;con a:i;met P:i;met Q:i;met R:i;eq P=f Q Q Q Q;eq Q=f R R R R;"
                + "eq R=" + BLOCK.replace('P', 'a') + ";eq f P P P P=f P P P P;", 0);
        due("size(0) of the short ones", sides.size(0), 1169);
        due("size(1) of the short ones", sides.size(1), 289);
        due("size(2) of the short ones", sides.size(2), 69);
        due("side(3, 0)", sides.side(3, 0), NONE);
        due("side(3, 1)", sides.side(3, 1), NONE);
        due("sideLetter(3, 0, 0)", sides.sideLetter(3, 0, 0), NONE);
        due("side(2, 0)", sides.side(2, 0), 69);
        due("side(0, 1)", sides.side(0, 1), 1169);
    }

    private static final String BLOCK = "f(f P P P P)(f P P P P)(f P P P P)(f P P P(f P P P(f P P P P)))";

    private static void dueBound(String name, int bytes, int size) {
        String text = "con f:i->i->i->i->i;con a:i;con " + name + ":i;met A:i;met P:i;met Q:i;met R:i;"
                + "eq R=f a a a a;eq Q=f R R R R;eq P=f Q Q Q Q;"
                + "eq A=f(f P P P P)(f P P P P)(f P P P P)(f P P P(f P P P(f Q Q Q " + name + ")));";
        Desk desk = solved(text, 0);
        due("size(0) of " + text, desk.size(0), size);
        due("first letter of " + text, desk.letter(0, 0), size == NONE ? NONE : 'f');
        due("last letter of " + text, desk.letter(0, bytes - 1), size == NONE ? NONE : ')');
        due("letter behind of " + text, desk.letter(0, bytes), NONE);
        due("size(1) of " + text, desk.size(1), 209);
        due("side(3, 0) of " + text, desk.side(3, 0), size);
        due("side(3, 1) of " + text, desk.side(3, 1), size);
        due("last letter of the side of " + text, desk.sideLetter(3, 1, bytes - 1), size == NONE ? NONE : ')');
        due("side(2, 1) of " + text, desk.side(2, 1), 209);
    }

    private static void promise9Letter() {
        section("promise 9");
        Desk desk = solved("con f:i->i;met M:i->i;met N:i;eq M=\\x:i.f(f x);", 0);
        dueText("solution 0", solution(desk, 0), "\\x0.f (f x0)");
        due("letter(0, 0)", desk.letter(0, 0), '\\');
        due("letter(0, 11)", desk.letter(0, 11), ')');
        due("letter(0, 12)", desk.letter(0, 12), NONE);
        due("letter(0, -1)", desk.letter(0, -1), NONE);
        due("letter(1, 1)", desk.letter(1, 1), '0');
        due("letter(0, 4)", desk.letter(0, 4), 'f');
        due("letter(2, 0)", desk.letter(2, 0), NONE);
        due("letter(-1, 0)", desk.letter(-1, 0), NONE);
        due("letter far", desk.letter(0, Integer.MAX_VALUE), NONE);
        due("letter far back", desk.letter(0, Integer.MIN_VALUE), NONE);
        load(desk, "met M:i;");
        due("letter(0, 0) before solve()", desk.letter(0, 0), NONE);
    }

    private static void promise10Side() {
        section("promise 10");
        Desk desk = solved("con f:i->i;met M:i->i;eq \\x:i.M x=\\x:i.f x;eq f=f;eq \\x:i.\\y:i.M y=\\x:i.f;", 0);
        dueText("side 0 of 0", written(desk, 0, 0), "\\x0.f x0");
        dueText("side 1 of 0", written(desk, 0, 1), "\\x0.f x0");
        dueText("side 0 of 1", written(desk, 1, 0), "\\x0.f x0");
        dueText("side 0 of 2", written(desk, 2, 0), "\\x0.\\x1.f x1");
        due("side(0, 0)", desk.side(0, 0), 8);
        due("side(3, 0)", desk.side(3, 0), NONE);
        due("side(-1, 0)", desk.side(-1, 0), NONE);
        due("side(0, 2)", desk.side(0, 2), NONE);
        due("side(0, -1)", desk.side(0, -1), NONE);
        due("side far", desk.side(Integer.MAX_VALUE, Integer.MAX_VALUE), NONE);
        due("side far back", desk.side(Integer.MIN_VALUE, 1), NONE);
        load(desk, "con a:i;eq a=a;");
        due("side(0, 0) before solve()", desk.side(0, 0), NONE);
        // Variables have as many digits as they need.
        String binders = "\\a:i.\\b:i.\\c:i.\\d:i.\\e:i.\\f:i.\\g:i.\\h:i.\\j:i.\\k:i.\\l:i.\\m:i.";
        Desk tenth = solved("eq " + binders + "k=" + binders + "k;", 0);
        Desk eleventh = solved("eq " + binders + "l=" + binders + "l;", 0);
        String around = "\\x0.\\x1.\\x2.\\x3.\\x4.\\x5.\\x6.\\x7.\\x8.\\x9.\\x10.\\x11.";
        dueText("the tenth of many", written(tenth, 0, 1), around + "x9");
        dueText("the eleventh of many", written(eleventh, 0, 0), around + "x10");
        // The sides have the numbers and the orders of the solutions.
        Desk numbered = solved("met M:i->i;met N:i->i->i;eq \\x:i.\\y:i.N y x=\\x:i.\\y:i.N y x;", 0);
        dueText("an open side", written(numbered, 0, 0), "\\x0.\\x1.h1 x1 x0");
    }

    private static void promise11SideLetter() {
        section("promise 11");
        Desk desk = solved("con f:i->i;met M:i->i;eq \\x:i.M x=\\x:i.f x;", 0);
        due("sideLetter(0, 0, 0)", desk.sideLetter(0, 0, 0), '\\');
        due("sideLetter(0, 1, 4)", desk.sideLetter(0, 1, 4), 'f');
        due("letter(0, 1)", desk.letter(0, 1), 'x');
        due("sideLetter(0, 1, 7)", desk.sideLetter(0, 1, 7), '0');
        due("sideLetter(0, 1, 8)", desk.sideLetter(0, 1, 8), NONE);
        due("sideLetter(0, 1, -1)", desk.sideLetter(0, 1, -1), NONE);
        due("sideLetter(0, 2, 0)", desk.sideLetter(0, 2, 0), NONE);
        due("sideLetter(0, -1, 0)", desk.sideLetter(0, -1, 0), NONE);
        due("sideLetter(1, 0, 0)", desk.sideLetter(1, 0, 0), NONE);
        due("sideLetter(-1, 0, 0)", desk.sideLetter(-1, 0, 0), NONE);
        due("sideLetter far", desk.sideLetter(0, 0, Integer.MAX_VALUE), NONE);
        load(desk, "con f:i->i;met M:i->i;eq \\x:i.M x=\\x:i.f x;");
        due("sideLetter(0, 0, 0) before solve()", desk.sideLetter(0, 0, 0), NONE);
    }
}
