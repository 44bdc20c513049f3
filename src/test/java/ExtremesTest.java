/**
 * Every call with the least, the greatest and the boundary numbers, in objects from empty to full:
 * the answer, and all that can be looked at after it, are compared with the model's.
 */
public final class ExtremesTest {
    private static final int MIN = Integer.MIN_VALUE;
    private static final int MAX = Integer.MAX_VALUE;
    private static final int ALL = 255;
    private static final int[] EXTREMES = {
        MIN, MIN + 1, -65536, -256, -41, -40, -2, -1, 0, 1, 2, 3, 7, 8, 31, 32,
        39, 40, 41, 64, 159, 160, 161, 255, 256, 65536, MAX - 1, MAX,
    };
    private static final int[] FEW = {MIN, -1, 0, 1, 2, 3, 40, MAX};
    private static final String[] STATES = {
        "new", "new, with a run", "one key, no run", "a ring, told and met",
        "changed after the run", "full", "full, with other bits",
    };

    private static final Due DUE = new Due("ExtremesTest");

    private final int state;
    private final CycleRows x = new CycleRows();
    private final Model model = new Model();

    private ExtremesTest(int state) {
        this.state = state;
        make();
    }

    public static void main(String[] args) {
        for (int state = 0; state < STATES.length; state++) {
            for (int a : EXTREMES) {
                changes(state, a);
                new ExtremesTest(state).rings(a);
            }
        }
        DUE.end();
    }

    /** Each call that may change the object, with the number in each of its places. */
    private static void changes(int state, int a) {
        for (int call = 0; call < 11; call++) {
            ExtremesTest test = new ExtremesTest(state);
            test.change(call, a);
            test.look();
            test.goOn();
        }
    }

    private void change(int call, int a) {
        switch (call) {
            case 0 -> key(a);
            case 1 -> edge(a, 0, 0, ALL);
            case 2 -> edge(0, a, 0, ALL);
            case 3 -> edge(a, a, a, a);
            case 4 -> edge(0, 0, a, a);
            case 5 -> is("remove(" + a + ", 0)", x.remove(a, 0), model.remove(a, 0));
            case 6 -> is("remove(0, " + a + ")", x.remove(0, a), model.remove(0, a));
            case 7 -> is("remove(" + a + ", same)", x.remove(a, a), model.remove(a, a));
            case 8 -> is("cut(" + a + ")", x.cut(a) ? 1 : 0, model.cut(a) ? 1 : 0);
            case 9 -> run(a);
            default -> ask(a);
        }
    }

    private void make() {
        switch (state) {
            case 0 -> { }
            case 1 -> run(7);
            case 2 -> key(0);
            case 3 -> makeRing();
            case 4 -> {
                makeRing();
                key(-7);
                edge(3, 3, -1, ALL);
                edge(1, 0, MIN, ALL);
                is("cut(0)", x.cut(0) ? 1 : 0, model.cut(0) ? 1 : 0);
            }
            case 5 -> makeFull(ALL);
            default -> makeFull(MIN | 1);
        }
    }

    private void makeRing() {
        key(MAX);
        key(MIN);
        key(0);
        edge(0, 1, MAX, 3);
        edge(1, 0, MIN, 1);
        edge(2, 0, -1, ALL);
        run(0);
        ask(2);
    }

    private void makeFull(int bits) {
        for (int n = 0; n < 40; n++) {
            key(-n);
        }
        for (int n = 0; n < 160; n++) {
            edge(n % 40, (n + 1) % 40, -n, bits);
        }
        run(0);
        ask(39);
    }

    private void look() {
        for (int a : EXTREMES) {
            is("size(" + a + ")", x.size(a), model.size(a));
            is("only(" + a + ")", x.only(a), model.only(a));
            is("newest(" + a + ")", x.newest(a), model.newest(a));
            is("strong(" + a + ")", x.strong(a), model.strong(a));
            is("state(" + a + ")", x.state(a), model.state(a));
            is("least(" + a + ")", x.least(a), model.least(a));
            is("met(" + a + ")", x.met(a), model.met(a));
        }
    }

    /** What the call changed shows in the calls that follow it. */
    private void goOn() {
        run(1);
        for (int key = 0; key < 3; key++) {
            is("state(" + key + ")", x.state(key), model.state(key));
            ask(key);
            is("met(0)", x.met(0), model.met(0));
        }
        run(0);
        for (int k = 0; k < 3; k++) {
            for (int what = 0; what < 3; what++) {
                ring(0, k, what);
            }
        }
        key(12345);
        edge(0, 0, 0, ALL);
        is("remove(0, 1)", x.remove(0, 1), model.remove(0, 1));
    }

    private void rings(int i) {
        for (int k : FEW) {
            for (int what : FEW) {
                ring(i, k, what);
                ring(0, i, what);
                ring(0, k, i);
            }
        }
    }

    private void key(int name) {
        is("key(" + name + ")", x.key(name), model.key(name));
    }

    private void edge(int from, int to, int place, int bits) {
        is("edge(" + from + ", " + to + ", " + place + ", " + bits + ")",
                x.edge(from, to, place, bits), model.edge(from, to, place, bits));
    }

    private void run(int c) {
        is("run(" + c + ")", x.run(c), model.run(c));
    }

    private void ask(int key) {
        is("ask(" + key + ")", x.ask(key), model.ask(key));
    }

    private void ring(int i, int k, int what) {
        is("ring(" + i + ", " + k + ", " + what + ")", x.ring(i, k, what), model.ring(i, k, what));
    }

    private void is(String call, long got, long want) {
        DUE.is(STATES[state] + ": " + call, got, want);
    }
}
