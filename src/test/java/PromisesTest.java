/** Each promise of the document by itself: ordinary inputs, its edges, and wrong inputs. */
public final class PromisesTest {
    private static final int NONE = CycleRows.NONE;
    private static final int ALL = 255;
    private static final int MIN = Integer.MIN_VALUE;
    private static final int MAX = Integer.MAX_VALUE;
    private static final int[] WRONG = {MIN, -2, -1, 40, 41, 160, 161, MAX};

    private static final Due DUE = new Due("PromisesTest");

    public static void main(String[] args) {
        newObject();
        key();
        edge();
        remove();
        cut();
        run();
        runLeastRing();
        runOrderOfNames();
        runPartsInOrder();
        runStays();
        size();
        ring();
        ringLeastPlace();
        only();
        newest();
        strong();
        state();
        least();
        ask();
        askOrder();
        askNow();
        met();
        full();
        DUE.end();
    }

    private static void is(String call, long got, long want) {
        DUE.is(call, got, want);
    }

    private static void is(String call, boolean got, boolean want) {
        DUE.is(call, got, want);
    }

    /** Promise 1. */
    private static void newObject() {
        CycleRows x = new CycleRows();
        is("new: edge(0, 0)", x.edge(0, 0, 0, ALL), NONE);
        is("new: remove(0, 0)", x.remove(0, 0), 0);
        is("new: cut(0)", x.cut(0), false);
        is("new: size(0)", x.size(0), 0);
        is("new: ring(0, 0, 0)", x.ring(0, 0, 0), NONE);
        is("new: only(0)", x.only(0), NONE);
        is("new: newest(0)", x.newest(0), NONE);
        is("new: strong(0)", x.strong(0), NONE);
        is("new: state(0)", x.state(0), NONE);
        is("new: least(0)", x.least(0), NONE);
        is("new: ask(0)", x.ask(0), NONE);
        is("new: met(0)", x.met(0), NONE);
        is("new: run(0)", x.run(0), 0);
        is("new: first key", x.key(0), 0);
        is("new: first edge", x.edge(0, 0, 0, ALL), 0);
    }

    /** Promise 2. */
    private static void key() {
        CycleRows x = new CycleRows();
        is("key(MIN)", x.key(MIN), 0);
        is("key(MAX)", x.key(MAX), 1);
        is("key(MIN) again", x.key(MIN), NONE);
        is("key(MAX) again", x.key(MAX), NONE);
        is("key(-1)", x.key(-1), 2);
        is("key(0)", x.key(0), 3);
        is("key(-1) again", x.key(-1), NONE);
        for (int n = 4; n < 40; n++) {
            is("key, the next one", x.key(n * 1000), n);
        }
        is("key, the 41st", x.key(7), NONE);
        is("key, a name that is there, with 40", x.key(0), NONE);
        is("key: 39 is there", x.edge(39, 0, 0, ALL), 0);
        is("key: 40 isn't", x.edge(40, 0, 0, ALL), NONE);
        CycleRows y = new CycleRows();
        is("key in another object", y.key(MIN), 0);
    }

    /** Promise 3. */
    private static void edge() {
        CycleRows x = Given.keys(2);
        is("edge(0, 1)", x.edge(0, 1, 5, 1), 0);
        is("edge(0, 1) again", x.edge(0, 1, 5, 1), 1);
        is("edge to itself", x.edge(1, 1, MIN, 0), 2);
        is("edge(2, 0)", x.edge(2, 0, 0, ALL), NONE);
        is("edge(0, 2)", x.edge(0, 2, 0, ALL), NONE);
        for (int wrong : WRONG) {
            is("edge from " + wrong, x.edge(wrong, 0, 0, ALL), NONE);
            is("edge to " + wrong, x.edge(0, wrong, 0, ALL), NONE);
        }
        is("edge after wrong ones", x.edge(1, 0, MAX, MIN), 3);
        x.cut(0);
        x.remove(0, 1);
        for (int n = 4; n < 160; n++) {
            is("edge, the next one, also after some went", x.edge(0, 1, n, ALL), n);
        }
        is("edge, the 161st", x.edge(0, 1, 0, ALL), NONE);
        x.cut(159);
        is("edge, the 161st after one went", x.edge(0, 1, 0, ALL), NONE);
        bits();
    }

    private static void bits() {
        CycleRows x = Given.keys(1);
        x.edge(0, 0, 0, ~ALL);
        for (int c = 0; c < 8; c++) {
            is("bits above 7 mean nothing", x.run(c), 0);
        }
        x.edge(0, 0, 0, 1 << 7 | 1 << 8 | 1 << 31);
        for (int c = 0; c < 8; c++) {
            is("bit 7 alone, run(" + c + ")", x.run(c), c == 7 ? 1 : 0);
        }
    }

    /** Promise 4. */
    private static void remove() {
        CycleRows x = Given.keys(3);
        Given.edges(x, 0, 1, 1, 0, 0, 1, 0, 2, 0, 1, 1, 1);
        x.edge(0, 1, 0, 0);
        x.cut(2);
        is("remove(0, 1) with one gone", x.remove(0, 1), 3);
        is("remove(0, 1) again", x.remove(0, 1), 0);
        is("remove(2, 0): none", x.remove(2, 0), 0);
        is("remove took the first", x.cut(0), false);
        is("remove took the one without configurations", x.cut(6), false);
        is("remove left the other way", x.cut(1), true);
        is("remove left the other end", x.cut(3), true);
        is("remove to itself", x.remove(1, 1), 1);
        for (int wrong : WRONG) {
            is("remove from " + wrong, x.remove(wrong, 0), 0);
            is("remove to " + wrong, x.remove(0, wrong), 0);
            is("remove both " + wrong, x.remove(wrong, wrong), 0);
        }
        is("edge after remove", x.edge(0, 1, 0, ALL), 7);
        is("remove the new one", x.remove(0, 1), 1);
    }

    /** Promise 5. */
    private static void cut() {
        CycleRows x = Given.keys(2);
        Given.edges(x, 0, 1, 1, 0);
        x.edge(0, 0, 0, 0);
        is("run before cut", x.run(0), 1);
        is("cut(2), without configurations", x.cut(2), true);
        is("cut(2) again", x.cut(2), false);
        is("cut(3): none", x.cut(3), false);
        for (int wrong : WRONG) {
            is("cut(" + wrong + ")", x.cut(wrong), false);
        }
        is("run, ring left", x.run(0), 1);
        is("cut(1)", x.cut(1), true);
        is("run after cut", x.run(0), 0);
        is("edge number after cut", x.edge(1, 0, 0, ALL), 3);
        is("cut(1) stays gone", x.cut(1), false);
        is("run with the new one", x.run(0), 1);
    }

    /** Promise 6: how many, in which configurations. */
    private static void run() {
        CycleRows x = Given.keys(5);
        is("run without edges", x.run(0), 0);
        x.edge(0, 1, 0, 1);
        x.edge(1, 0, 0, 3);
        x.edge(2, 2, 0, 2);
        x.edge(3, 4, 0, ALL);
        is("run(0)", x.run(0), 1);
        DUE.ringIs("run(0)", x, 0, 0, 1);
        is("run(1)", x.run(1), 1);
        DUE.ringIs("run(1)", x, 0, 2);
        is("run(2)", x.run(2), 0);
        is("run(7)", x.run(7), 0);
        is("run(8)", x.run(8), NONE);
        for (int wrong : WRONG) {
            is("run(" + wrong + ")", x.run(wrong), NONE);
        }
    }

    /** Promise 6: the fewest keys; then, key by key, those that come first. */
    private static void runLeastRing() {
        CycleRows x = Given.keys(6);
        Given.edges(x, 0, 1, 1, 2, 2, 0, 2, 3, 3, 2);
        is("fewest keys", x.run(0), 1);
        DUE.ringIs("fewest keys", x, 0, 2, 3);
        x.edge(3, 3, 0, ALL);
        x.run(0);
        DUE.ringIs("itself is fewer", x, 0, 3);

        x = Given.keys(6);
        Given.edges(x, 0, 5, 5, 1, 1, 0, 0, 2, 2, 4, 4, 0, 2, 3, 3, 0);
        is("second and third key decide", x.run(0), 1);
        DUE.ringIs("second and third key decide", x, 0, 0, 2, 3);

        x = Given.keys(5);
        Given.edges(x, 0, 1, 1, 2, 2, 3, 3, 0, 3, 4, 4, 0, 2, 1);
        x.run(0);
        DUE.ringIs("not through the first key of the part", x, 0, 1, 2);

        x = Given.keys(6);
        Given.edges(x, 0, 1, 1, 2, 2, 5, 0, 3, 3, 4, 4, 0, 5, 0);
        x.run(0);
        DUE.ringIs("a lesser next key that comes back too late", x, 0, 0, 3, 4);
    }

    private static void runOrderOfNames() {
        CycleRows x = new CycleRows();
        int[] names = {MAX, 0, MIN, -1, 1};
        for (int name : names) {
            x.key(name);
        }
        Given.edges(x, 0, 1, 1, 2, 2, 3, 3, 4, 4, 0);
        is("all five", x.run(0), 1);
        DUE.ringIs("all five from the least name", x, 0, 2, 3, 4, 0, 1);
        Given.edges(x, 4, 3, 1, 4, 4, 1);
        x.run(0);
        DUE.ringIs("-1 before 0", x, 0, 3, 4);
        for (int key = 0; key < 5; key++) {
            is("one part", x.strong(key), 0);
        }
    }

    private static void runPartsInOrder() {
        CycleRows x = new CycleRows();
        int[] names = {60, 50, 40, 30, 20, 10};
        for (int name : names) {
            x.key(name);
        }
        Given.edges(x, 0, 5, 5, 0, 1, 2, 2, 1, 4, 4);
        is("three rings", x.run(3), 3);
        DUE.ringIs("first part", x, 0, 5, 0);
        DUE.ringIs("second part", x, 1, 4);
        DUE.ringIs("third part", x, 2, 2, 1);
        is("a fourth", x.size(3), 0);
        int[] parts = {0, 3, 3, 2, 1, 0};
        for (int key = 0; key < 6; key++) {
            is("strong(" + key + ")", x.strong(key), parts[key]);
        }
        x = Given.keys(4);
        Given.edges(x, 1, 2, 2, 1, 1, 0, 0, 0, 2, 3, 3, 3);
        is("a part that reaches others", x.run(0), 3);
        DUE.ringIs("reached, before", x, 0, 0);
        DUE.ringIs("reaching", x, 1, 1, 2);
        DUE.ringIs("reached, behind", x, 2, 3);
    }

    /** Promises 7 to 13 answer by the latest run that wasn't NONE, whatever came after it. */
    private static void runStays() {
        CycleRows x = new CycleRows();
        x.key(5);
        x.key(7);
        x.edge(0, 1, 3, 1);
        x.edge(1, 0, 4, 1);
        x.run(0);
        x.key(1);
        x.edge(1, 0, -9, ALL);
        x.edge(0, 1, -9, ALL);
        x.cut(0);
        x.remove(1, 0);
        is("run(-1)", x.run(-1), NONE);
        is("run(8)", x.run(8), NONE);
        DUE.ringIs("as it was", x, 0, 0, 1);
        is("place as it was", x.ring(0, 0, 1), 3);
        is("edge as it was", x.ring(0, 1, 2), 1);
        is("place of an edge that has gone", x.ring(0, 1, 1), 4);
        is("only as it was", x.only(0), 0);
        is("newest as it was", x.newest(0), 1);
        is("strong as it was", x.strong(0), 0);
        is("state as it was", x.state(1), 2);
        is("least as it was", x.least(1), 2);
        is("strong of a later key", x.strong(2), NONE);
        is("state of a later key", x.state(2), NONE);
        is("least of a later key", x.least(2), NONE);
        is("run with the later ones", x.run(0), 0);
        is("strong of it now", x.strong(2), 0);
        is("strong of the old one now", x.strong(0), 1);
        is("no ring now", x.size(0), 0);
        is("no only now", x.only(0), NONE);
        is("no newest now", x.newest(0), NONE);
        is("no ring key now", x.ring(0, 0, 0), NONE);
    }

    /** Promise 7. */
    private static void size() {
        CycleRows x = Given.keys(6);
        Given.edges(x, 0, 0, 1, 2, 2, 3, 3, 1, 4, 5, 5, 4);
        is("size before a run", x.size(0), 0);
        x.run(1);
        is("size(0)", x.size(0), 1);
        is("size(1)", x.size(1), 3);
        is("size(2)", x.size(2), 2);
        is("size(3)", x.size(3), 0);
        for (int wrong : WRONG) {
            is("size(" + wrong + ")", x.size(wrong), 0);
        }
    }

    /** Promise 8. */
    private static void ring() {
        CycleRows x = Given.keys(4);
        x.edge(3, 1, MIN, ALL);
        x.edge(1, 3, MAX, ALL);
        x.edge(0, 0, 77, ALL);
        is("ring before a run", x.ring(0, 0, 0), NONE);
        x.run(0);
        is("ring(0, 0, 0)", x.ring(0, 0, 0), 0);
        is("ring(0, 0, 1)", x.ring(0, 0, 1), 77);
        is("ring(0, 0, 2)", x.ring(0, 0, 2), 2);
        is("ring(0, 1, 0)", x.ring(0, 1, 0), NONE);
        is("ring(1, 0, 0)", x.ring(1, 0, 0), 1);
        is("ring(1, 0, 1)", x.ring(1, 0, 1), MAX);
        is("ring(1, 0, 2)", x.ring(1, 0, 2), 1);
        is("ring(1, 1, 0)", x.ring(1, 1, 0), 3);
        is("ring(1, 1, 1)", x.ring(1, 1, 1), MIN);
        is("ring(1, 1, 2)", x.ring(1, 1, 2), 0);
        is("ring(1, 0, 3)", x.ring(1, 0, 3), NONE);
        is("ring(2, 0, 0)", x.ring(2, 0, 0), NONE);
        is("ring(1, 2, 1)", x.ring(1, 2, 1), NONE);
        for (int wrong : WRONG) {
            is("ring(" + wrong + ", 0, 0)", x.ring(wrong, 0, 0), NONE);
            is("ring(1, " + wrong + ", 2)", x.ring(1, wrong, 2), NONE);
            is("ring(1, 0, " + wrong + ")", x.ring(1, 0, wrong), NONE);
        }
    }

    private static void ringLeastPlace() {
        CycleRows x = Given.keys(2);
        x.edge(0, 0, MIN, 1);
        x.edge(0, 1, 7, ALL);
        x.edge(0, 1, -7, 2);
        x.edge(0, 1, 3, ALL);
        x.edge(0, 1, 3, ALL);
        x.edge(0, 1, MIN, ALL);
        x.edge(1, 0, 0, ALL);
        x.cut(5);
        x.cut(0);
        x.run(0);
        is("the least place in this configuration", x.ring(0, 0, 1), 3);
        is("of like ones the first", x.ring(0, 0, 2), 3);
        x.run(1);
        is("the least place in another one", x.ring(0, 0, 1), -7);
        is("its edge", x.ring(0, 0, 2), 2);
        x.edge(0, 1, MAX, ALL);
        x.edge(0, 1, MIN, ALL);
        x.run(0);
        is("MIN before all others", x.ring(0, 0, 2), 8);
    }

    /** Promise 9. */
    private static void only() {
        CycleRows x = Given.keys(3);
        x.edge(0, 1, 0, 1);
        x.edge(1, 0, 0, ALL);
        x.edge(2, 2, 0, 1 << 7 | 1 << 8);
        is("only before a run", x.only(0), NONE);
        x.run(0);
        is("only(0)", x.only(0), 0);
        is("only(1)", x.only(1), NONE);
        x.run(7);
        is("only in 7", x.only(0), 7);
        x.edge(0, 1, 50, 2);
        x.run(0);
        is("another edge between them has 1", x.only(0), NONE);
        x.cut(3);
        is("by the edges as they were", x.only(0), NONE);
        x.run(0);
        is("that one has gone", x.only(0), 0);
        x.edge(0, 1, 50, 2);
        is("by the edges as they were, without it", x.only(0), 0);
        for (int wrong : WRONG) {
            is("only(" + wrong + ")", x.only(wrong), NONE);
        }
        x = Given.keys(2);
        x.edge(0, 1, 0, 3);
        x.edge(1, 0, 0, 5);
        x.run(0);
        is("others have but a part of it", x.only(0), 0);
        x.edge(0, 1, 0, 4);
        x.edge(0, 0, 0, 4);
        x.run(0);
        is("another one has it, though it isn't told there", x.only(0), NONE);
    }

    /** Promise 10. */
    private static void newest() {
        CycleRows x = Given.keys(4);
        Given.edges(x, 1, 2, 2, 3, 3, 1, 0, 0);
        x.edge(2, 3, 5, ALL);
        is("newest before a run", x.newest(0), NONE);
        x.run(0);
        is("newest(0)", x.newest(0), 3);
        is("newest(1): a later edge that isn't told", x.newest(1), 2);
        is("newest(2)", x.newest(2), NONE);
        x.edge(2, 3, -5, ALL);
        is("newest as told", x.newest(1), 2);
        x.run(0);
        is("newest, told now", x.newest(1), 5);
        for (int wrong : WRONG) {
            is("newest(" + wrong + ")", x.newest(wrong), NONE);
        }
    }

    /** Promise 11. */
    private static void strong() {
        CycleRows x = Given.keys(6);
        Given.edges(x, 4, 1, 1, 4, 4, 2, 3, 2, 5, 5);
        is("strong before a run", x.strong(0), NONE);
        x.run(9);
        is("strong after a run that was NONE", x.strong(0), NONE);
        x.run(0);
        int[] parts = {0, 1, 2, 3, 1, 4};
        for (int key = 0; key < 6; key++) {
            is("strong(" + key + ")", x.strong(key), parts[key]);
        }
        is("strong(6)", x.strong(6), NONE);
        for (int wrong : WRONG) {
            is("strong(" + wrong + ")", x.strong(wrong), NONE);
        }
    }

    /** Promise 12. */
    private static void state() {
        CycleRows x = Given.keys(7);
        Given.edges(x, 0, 1, 1, 2, 2, 3, 3, 2, 3, 4, 6, 6);
        x.edge(4, 6, 0, 2);
        is("state before a run", x.state(0), NONE);
        x.run(0);
        int[] states = {1, 1, 2, 2, 0, 0, 2};
        for (int key = 0; key < 7; key++) {
            is("state(" + key + ")", x.state(key), states[key]);
        }
        x.run(1);
        is("state(4) in another configuration", x.state(4), 1);
        is("state(7)", x.state(7), NONE);
        for (int wrong : WRONG) {
            is("state(" + wrong + ")", x.state(wrong), NONE);
        }
    }

    /** Promise 13. */
    private static void least() {
        CycleRows x = Given.keys(7);
        Given.edges(x, 0, 1, 1, 2, 2, 3, 3, 0, 1, 0, 3, 4, 5, 5, 5, 0, 2, 6, 6, 3);
        is("least before a run", x.least(0), NONE);
        x.run(0);
        int[] leasts = {2, 2, 4, 4, 0, 1, 5};
        for (int key = 0; key < 7; key++) {
            is("least(" + key + ")", x.least(key), leasts[key]);
        }
        is("least(7)", x.least(7), NONE);
        for (int wrong : WRONG) {
            is("least(" + wrong + ")", x.least(wrong), NONE);
        }
    }

    /** Promise 14. */
    private static void ask() {
        CycleRows x = Given.keys(5);
        Given.edges(x, 0, 1, 1, 2, 2, 3, 3, 1, 4, 4);
        is("ask before a run", x.ask(0), NONE);
        x.run(-1);
        is("ask after a run that was NONE", x.ask(0), NONE);
        x.run(0);
        is("ask(0)", x.ask(0), 3);
        DUE.metIs("ask(0)", x, 1, 2, 3);
        is("ask(2)", x.ask(2), 3);
        DUE.metIs("ask(2)", x, 2, 3, 1);
        is("ask(4)", x.ask(4), 1);
        DUE.metIs("ask(4)", x, 4);
        is("ask(5)", x.ask(5), NONE);
        for (int wrong : WRONG) {
            is("ask(" + wrong + ")", x.ask(wrong), NONE);
        }
        x.cut(3);
        is("ask without a ring", x.ask(0), 0);
        DUE.metIs("ask without a ring", x);
    }

    private static void askOrder() {
        CycleRows x = Given.keys(6);
        Given.edges(x, 0, 3, 3, 4, 0, 4, 0, 1, 1, 2, 2, 1, 2, 0);
        x.run(0);
        is("a key at its end is no ring; edges in their order", x.ask(0), 2);
        DUE.metIs("edges in their order", x, 1, 2);
        x = Given.keys(6);
        Given.edges(x, 0, 5, 0, 0, 5, 4, 4, 5);
        x.run(0);
        is("deeper before the next edge", x.ask(0), 2);
        DUE.metIs("deeper before the next edge", x, 5, 4);
        x = Given.keys(4);
        Given.edges(x, 0, 1, 0, 2, 1, 3, 2, 3, 3, 0);
        x.edge(0, 0, MIN, ALL);
        x.run(0);
        is("by coming, not by place", x.ask(0), 3);
        DUE.metIs("by coming, not by place", x, 0, 1, 3);
        x = Given.keys(4);
        Given.edges(x, 0, 1, 0, 2, 2, 1, 2, 3, 1, 3);
        x.run(0);
        is("many ways, no ring", x.ask(0), 0);
    }

    /** The configuration of the latest run that wasn't NONE, the keys and edges of now. */
    private static void askNow() {
        CycleRows x = Given.keys(2);
        x.edge(0, 1, 0, 1);
        x.edge(1, 0, 0, 1);
        x.edge(0, 0, 0, 2);
        x.run(1);
        is("ask in 1", x.ask(0), 1);
        x.run(0);
        is("ask in 0", x.ask(0), 2);
        x.run(8);
        is("ask after a run that was NONE", x.ask(0), 2);
        x.cut(1);
        is("ask after a cut", x.ask(0), 0);
        is("a later key", x.key(-5), 2);
        x.edge(1, 2, 0, 1);
        x.edge(2, 1, 0, 1);
        is("ask by later edges", x.ask(0), 2);
        DUE.metIs("ask by later edges", x, 1, 2);
        is("ask a later key", x.ask(2), 2);
        DUE.metIs("ask a later key", x, 2, 1);
        is("the run stays", x.size(0), 2);
        is("the run stays: strong", x.strong(2), NONE);
    }

    /** Promise 15. */
    private static void met() {
        CycleRows x = Given.keys(3);
        Given.edges(x, 0, 1, 1, 0);
        is("met before an ask", x.met(0), NONE);
        x.run(0);
        is("ask(1)", x.ask(1), 2);
        is("ask(3)", x.ask(3), NONE);
        is("ask(-1)", x.ask(-1), NONE);
        x.cut(0);
        x.run(0);
        x.run(9);
        DUE.metIs("met stays", x, 1, 0);
        for (int wrong : WRONG) {
            is("met(" + wrong + ")", x.met(wrong), NONE);
        }
        is("ask(2)", x.ask(2), 0);
        DUE.metIs("none met", x);
    }

    /** The largest ring, and the largest number of rings. */
    private static void full() {
        CycleRows x = new CycleRows();
        for (int key = 0; key < 40; key++) {
            x.key(-key);
        }
        for (int key = 0; key < 40; key++) {
            x.edge(key, (key + 1) % 40, key, 1);
            x.edge(key, key, key, 2);
        }
        is("one ring of 40", x.run(0), 1);
        is("size of 40", x.size(0), 40);
        for (int k = 0; k < 40; k++) {
            is("ring of 40 at " + k, x.ring(0, k, 0), (39 + k) % 40);
        }
        is("newest of 40", x.newest(0), 78);
        is("ask of 40", x.ask(20), 40);
        is("last met of 40", x.met(39), 19);
        is("40 rings", x.run(1), 40);
        is("the last of 40", x.ring(39, 0, 0), 0);
        is("only of the last", x.only(39), 1);
        is("strong of the last", x.strong(0), 39);
    }
}
