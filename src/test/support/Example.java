/** Reads one text, solves it, and tells what came of it. */
public final class Example {
    public static void main(String[] args) {
        System.out.println(answer("con f:i->i->i;met M:i->i->i;eq \\x:i.\\y:i.M y x=\\x:i.\\y:i.f x y;"));
        System.out.println(answer("con g:i->i;met M:i;met N:i->i;eq M=g M;"));
        System.out.println(answer("met M:i;met N:i->i;eq \\x:i.M=\\x:i.N x;"));
        System.out.println(answer("con a:i;eq a=b;"));
        System.out.println(answer("con a:i;eq a=;"));
    }

    static String answer(String text) {
        PatternDesk desk = new PatternDesk();
        for (int at = 0; at < text.length(); at += 20) {
            desk.feed(word(text, at), word(text, at + 4), word(text, at + 8), word(text, at + 12), word(text, at + 16));
        }
        int loaded = desk.load(text.length());
        if (loaded != 0) {
            return loaded == -2 ? "a fault at byte " + desk.told(0) : "wrong " + desk.told(1) + " at byte " + desk.told(0);
        }
        if (desk.solve() != 0) {
            return "no unifier";
        }
        StringBuilder made = new StringBuilder(desk.fresh() + " own unknowns");
        for (int k = 0; k < desk.count(1); k++) {
            made.append(", ").append(k).append(" is ");
            int size = desk.size(k);
            for (int i = 0; i < size; i++) {
                made.append((char) desk.letter(k, i));
            }
        }
        return made.toString();
    }

    /** Four bytes of the text, the highest first; behind its end blanks, which load() is not told of. */
    private static int word(String text, int at) {
        int made = 0;
        for (int i = at; i < at + 4; i++) {
            made = made << 8 | (i < text.length() ? text.charAt(i) & 255 : ' ');
        }
        return made;
    }
}
