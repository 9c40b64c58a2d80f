/** A PatternDesk that counts its calls: behind the 512th nothing is promised, so no test may ask there. */
final class Desk {
    static final int MOST_CALLS = 512;

    private final PatternDesk desk = new PatternDesk();
    private int calls = 0;

    int calls() {
        return calls;
    }

    private PatternDesk called() {
        calls++;
        if (calls > MOST_CALLS) {
            throw new IllegalStateException("a test asks more than " + MOST_CALLS + " calls of one object");
        }
        return desk;
    }

    int feed(int a, int b, int c, int d, int e) {
        return called().feed(a, b, c, d, e);
    }

    int load(int n) {
        return called().load(n);
    }

    int told(int what) {
        return called().told(what);
    }

    int count(int what) {
        return called().count(what);
    }

    int solve() {
        return called().solve();
    }

    int fresh() {
        return called().fresh();
    }

    int size(int k) {
        return called().size(k);
    }

    int letter(int k, int i) {
        return called().letter(k, i);
    }

    int side(int k, int side) {
        return called().side(k, side);
    }

    int sideLetter(int k, int side, int i) {
        return called().sideLetter(k, side, i);
    }
}
