/** The boundaries that promises 1 to 5 name, sentence by sentence. */
public final class BoundaryChangesTest {
    private static final int NONE = Given.NONE;
    private static final int ALL = Given.ALL;
    private static final int MIN = Given.MIN;
    private static final int MAX = Given.MAX;

    private static final Due DUE = new Due("BoundaryChangesTest");

    public static void main(String[] args) {
        newNoKeys();
        newNoEdges();
        newNothingTold();
        newSharesNothing();
        keyItsNumber();
        keyNoneIfThereAre40();
        keyNoneIfTheNameIsThere();
        keyRefusedTakesNoNumber();
        keyRefusedChangesNothing();
        edgeItsNumber();
        edgeNoneIfNoKeysAtAll();
        edgeNoneIfNoSuchFrom();
        edgeNoneIfNoSuchTo();
        edgeNoneUntilTheKeyIsThere();
        edgeNoneIf160HaveCome();
        edgeRefusedTakesNoNumber();
        edgeRefusedChangesNothing();
        removeAll();
        removeAllOf160();
        removeLeavesOthers();
        removeOfItself();
        removeCountsThoseThatGo();
        remove0IfNoEdgesBetween();
        remove0IfNoSuchKeys();
        removeRefusedChangesNothing();
        cutFirstAndLast();
        cutFalseIfNoneSuch();
        cutFalseBeforeItComes();
        cutFalseIfItWasCut();
        cutFalseIfItWasRemoved();
        cutRefusedChangesNothing();
        DUE.end();
    }

    private static void newNoKeys() {
        DUE.sentence("Promise 1: No keys");
        DUE.is("edge(0, 0)", new CycleRows().edge(0, 0, 0, ALL), NONE);
        CycleRows x = new CycleRows();
        DUE.is("run(0)", x.run(0), 0);
        DUE.is("strong(0)", x.strong(0), NONE);
        DUE.is("state(0)", x.state(0), NONE);
        DUE.is("least(0)", x.least(0), NONE);
        DUE.is("ask(0)", x.ask(0), NONE);
        DUE.is("key(0)", x.key(0), 0);
    }

    private static void newNoEdges() {
        DUE.sentence("Promise 1: no edges");
        DUE.is("cut(0)", new CycleRows().cut(0), false);
        DUE.is("remove(0, 0)", new CycleRows().remove(0, 0), 0);
        CycleRows x = Given.keys(1);
        DUE.is("cut(0) with a key", x.cut(0), false);
        DUE.is("remove(0, 0) with a key", x.remove(0, 0), 0);
        for (int c = 0; c < 8; c++) {
            DUE.is("run(" + c + ") with a key", x.run(c), 0);
            DUE.is("ask(0) with a key", x.ask(0), 0);
        }
        DUE.is("the first edge", x.edge(0, 0, 0, ALL), 0);
    }

    private static void newNothingTold() {
        DUE.sentence("Promise 1: a new object has no run and no ask behind it");
        DUE.is("size(0)", new CycleRows().size(0), 0);
        for (int what = 0; what < 3; what++) {
            DUE.is("ring(0, 0, " + what + ")", new CycleRows().ring(0, 0, what), NONE);
        }
        DUE.is("only(0)", new CycleRows().only(0), NONE);
        DUE.is("newest(0)", new CycleRows().newest(0), NONE);
        DUE.is("strong(0)", new CycleRows().strong(0), NONE);
        DUE.is("state(0)", new CycleRows().state(0), NONE);
        DUE.is("least(0)", new CycleRows().least(0), NONE);
        DUE.is("ask(0)", new CycleRows().ask(0), NONE);
        DUE.is("met(0)", new CycleRows().met(0), NONE);
    }

    private static void newSharesNothing() {
        DUE.sentence("Promise 1: No keys, no edges (another object being full)");
        CycleRows full = Given.keys(40);
        Given.fill(full, 0, 0);
        full.run(0);
        full.ask(0);
        CycleRows x = new CycleRows();
        DUE.is("size(0)", x.size(0), 0);
        DUE.is("ask(0)", x.ask(0), NONE);
        DUE.is("met(0)", x.met(0), NONE);
        DUE.is("key(0)", x.key(0), 0);
        DUE.is("edge(0, 0)", x.edge(0, 0, 0, 2), 0);
        DUE.is("run(0)", x.run(0), 0);
        DUE.is("the full one", full.size(0), 1);
        DUE.is("the full one", full.met(0), 0);
    }

    private static void keyItsNumber() {
        DUE.sentence("Promise 2: A new key: its number");
        CycleRows x = new CycleRows();
        for (int n = 0; n < 40; n++) {
            DUE.is("key " + n, x.key(7 - n), n);
        }
    }

    private static void keyNoneIfThereAre40() {
        DUE.sentence("Promise 2: NONE if there are 40");
        int[] names = {MIN, -1, 5, MAX};
        CycleRows x = Given.keys(40);
        for (int name : names) {
            DUE.is("key(" + name + ")", x.key(name), NONE);
        }
        DUE.is("a name that is there, too", x.key(0), NONE);
        x = Given.keys(39);
        DUE.is("with 39", x.key(5), 39);
        DUE.is("with 40", x.key(6), NONE);
    }

    private static void keyNoneIfTheNameIsThere() {
        DUE.sentence("Promise 2: NONE if .. the NAME is there");
        CycleRows x = Given.named(MAX, 0, -1, MIN);
        DUE.is("the first name", x.key(MAX), NONE);
        DUE.is("0", x.key(0), NONE);
        DUE.is("-1", x.key(-1), NONE);
        DUE.is("the last name", x.key(MIN), NONE);
        DUE.is("a name not there", x.key(1), 4);
        DUE.is("that one now", x.key(1), NONE);
    }

    private static void keyRefusedTakesNoNumber() {
        DUE.sentence("Promise 2: NONE: no key has come");
        CycleRows x = Given.keys(39);
        for (int n = 0; n < 39; n++) {
            DUE.is("the name " + n * 10, x.key(n * 10), NONE);
        }
        DUE.is("39 isn't there", x.edge(39, 0, 0, ALL), NONE);
        DUE.is("the 40th", x.key(-5), 39);
        DUE.is("39 is there", x.edge(39, 0, 0, ALL), 0);
    }

    private static void keyRefusedChangesNothing() {
        DUE.sentence("Promise 2: NONE: the order stays");
        CycleRows x = Given.keys(40);
        x.key(-5);
        x.key(MIN);
        x.key(10);
        x.run(0);
        for (int key = 0; key < 40; key++) {
            DUE.is("strong(" + key + ")", x.strong(key), key);
        }
        x = Given.named(5, 3);
        x.key(5);
        x.key(3);
        Given.edges(x, 0, 1, 1, 0);
        DUE.is("run", x.run(0), 1);
        DUE.ringIs("two keys", x, 0, 1, 0);
        DUE.is("strong(2)", x.strong(2), NONE);
    }

    private static void edgeItsNumber() {
        DUE.sentence("Promise 3: A new edge: its number");
        CycleRows x = Given.keys(40);
        DUE.is("edge(0, 0)", x.edge(0, 0, MIN, 0), 0);
        DUE.is("edge(39, 39)", x.edge(39, 39, MAX, MIN), 1);
        DUE.is("edge(0, 39)", x.edge(0, 39, -1, -1), 2);
        DUE.is("edge(0, 39) again", x.edge(0, 39, -1, -1), 3);
        for (int n = 4; n < 160; n++) {
            DUE.is("edge " + n, x.edge(39, 0, n, ALL), n);
        }
    }

    private static void edgeNoneIfNoKeysAtAll() {
        DUE.sentence("Promise 3: NONE if there are no such keys (none at all)");
        CycleRows x = new CycleRows();
        DUE.is("edge(0, 0)", x.edge(0, 0, 0, ALL), NONE);
        DUE.is("edge(-1, -1)", x.edge(-1, -1, 0, ALL), NONE);
        DUE.is("edge(MAX, MIN)", x.edge(MAX, MIN, 0, ALL), NONE);
    }

    private static void edgeNoneIfNoSuchFrom() {
        DUE.sentence("Promise 3: NONE if there are no such keys (from)");
        CycleRows x = Given.keys(3);
        for (int wrong : Given.WRONG) {
            DUE.is("edge(" + wrong + ", 0)", x.edge(wrong, 0, 0, ALL), NONE);
            DUE.is("edge(" + wrong + ", same)", x.edge(wrong, wrong, 0, ALL), NONE);
        }
        DUE.is("edge(3, 0)", x.edge(3, 0, 0, ALL), NONE);
        DUE.is("edge(39, 0)", x.edge(39, 0, 0, ALL), NONE);
        DUE.is("edge(2, 0)", x.edge(2, 0, 0, ALL), 0);
        CycleRows full = Given.keys(40);
        DUE.is("full: edge(40, 0)", full.edge(40, 0, 0, ALL), NONE);
        DUE.is("full: edge(64, 0)", full.edge(64, 0, 0, ALL), NONE);
        DUE.is("full: edge(39, 0)", full.edge(39, 0, 0, ALL), 0);
    }

    private static void edgeNoneIfNoSuchTo() {
        DUE.sentence("Promise 3: NONE if there are no such keys (to)");
        CycleRows x = Given.keys(3);
        for (int wrong : Given.WRONG) {
            DUE.is("edge(0, " + wrong + ")", x.edge(0, wrong, 0, ALL), NONE);
        }
        DUE.is("edge(0, 3)", x.edge(0, 3, 0, ALL), NONE);
        DUE.is("edge(0, 39)", x.edge(0, 39, 0, ALL), NONE);
        DUE.is("edge(0, 2)", x.edge(0, 2, 0, ALL), 0);
        CycleRows full = Given.keys(40);
        DUE.is("full: edge(0, 40)", full.edge(0, 40, 0, ALL), NONE);
        DUE.is("full: edge(0, 64)", full.edge(0, 64, 0, ALL), NONE);
        DUE.is("full: edge(0, 39)", full.edge(0, 39, 0, ALL), 0);
    }

    private static void edgeNoneUntilTheKeyIsThere() {
        DUE.sentence("Promise 3: NONE if there are no such keys (yet)");
        CycleRows x = Given.keys(1);
        DUE.is("edge(0, 1)", x.edge(0, 1, 0, ALL), NONE);
        DUE.is("edge(1, 0)", x.edge(1, 0, 0, ALL), NONE);
        x.key(-10);
        DUE.is("run", x.run(0), 0);
        DUE.is("edge(0, 1) now", x.edge(0, 1, 0, ALL), 0);
        DUE.is("edge(1, 0) now", x.edge(1, 0, 0, ALL), 1);
        DUE.is("run now", x.run(0), 1);
    }

    private static void edgeNoneIf160HaveCome() {
        DUE.sentence("Promise 3: NONE if .. 160 have come");
        CycleRows x = Given.keys(2);
        for (int n = 0; n < 159; n++) {
            x.edge(0, 1, 0, ALL);
        }
        DUE.is("the 160th", x.edge(0, 1, 0, ALL), 159);
        DUE.is("the 161st", x.edge(0, 1, 0, ALL), NONE);
        DUE.is("the 161st to itself", x.edge(1, 1, MIN, ALL), NONE);
        DUE.is("the 161st in none", x.edge(0, 1, 0, 0), NONE);
        DUE.is("the 161st without keys", x.edge(-1, 2, 0, ALL), NONE);
        x.cut(159);
        DUE.is("after a cut", x.edge(0, 1, 0, ALL), NONE);
        x.remove(0, 1);
        DUE.is("after all went", x.edge(0, 1, 0, ALL), NONE);
        x.key(-10);
        DUE.is("after a new key", x.edge(0, 2, 0, ALL), NONE);
        x.run(0);
        DUE.is("after a run", x.edge(0, 1, 0, ALL), NONE);
    }

    private static void edgeRefusedTakesNoNumber() {
        DUE.sentence("Promise 3: NONE: no edge has come");
        CycleRows x = Given.keys(1);
        for (int n = 0; n < 200; n++) {
            x.edge(0, 1 + n, 0, ALL);
        }
        for (int n = 0; n < 160; n++) {
            DUE.is("the next edge", x.edge(0, 0, 0, ALL), n);
        }
        DUE.is("the 161st", x.edge(0, 0, 0, ALL), NONE);
    }

    private static void edgeRefusedChangesNothing() {
        DUE.sentence("Promise 3: NONE: the edges stay");
        CycleRows x = Given.keys(3);
        Given.edges(x, 0, 1);
        x.edge(1, 3, MIN, ALL);
        x.edge(-1, 0, MIN, ALL);
        DUE.is("cut(1)", x.cut(1), false);
        DUE.is("run with two refused", x.run(0), 0);
        Given.fill(x, 0, 1);
        x.edge(1, 0, MIN, ALL);
        x.edge(2, 2, MIN, ALL);
        DUE.is("run when full", x.run(0), 0);
        DUE.is("ask when full", x.ask(0), 0);
        DUE.is("remove(1, 0)", x.remove(1, 0), 0);
        DUE.is("cut(160)", x.cut(160), false);
        DUE.is("remove(0, 1)", x.remove(0, 1), 160);
    }

    private static void removeAll() {
        DUE.sentence("Promise 4: All edges from a key to another one go");
        CycleRows x = Given.keys(2);
        x.edge(0, 1, MIN, 1);
        x.edge(0, 1, MAX, 128);
        x.edge(0, 1, 0, 0);
        x.edge(0, 1, 0, ~ALL);
        x.edge(1, 0, 0, ALL);
        DUE.is("run(0)", x.run(0), 1);
        DUE.is("remove(0, 1)", x.remove(0, 1), 4);
        DUE.is("run(0) after it", x.run(0), 0);
        DUE.is("run(7) after it", x.run(7), 0);
        for (int edge = 0; edge < 4; edge++) {
            DUE.is("cut(" + edge + ")", x.cut(edge), false);
        }
    }

    private static void removeAllOf160() {
        DUE.sentence("Promise 4: All edges .. go: how many (160)");
        CycleRows x = Given.keys(40);
        Given.fill(x, 39, 0);
        DUE.is("remove(39, 0)", x.remove(39, 0), 160);
        DUE.is("the first went", x.cut(0), false);
        DUE.is("the last went", x.cut(159), false);
        DUE.is("remove(39, 0) again", x.remove(39, 0), 0);
    }

    private static void removeLeavesOthers() {
        DUE.sentence("Promise 4: edges from a key to another one (no others)");
        CycleRows x = Given.keys(3);
        Given.edges(x, 0, 1, 1, 0, 0, 2, 2, 1, 0, 0, 1, 1);
        DUE.is("remove(0, 1)", x.remove(0, 1), 1);
        DUE.is("cut(0)", x.cut(0), false);
        for (int edge = 1; edge < 6; edge++) {
            DUE.is("cut(" + edge + ")", x.cut(edge), true);
        }
    }

    private static void removeOfItself() {
        DUE.sentence("Promise 4: All edges from a key (to itself, too) go");
        CycleRows x = Given.keys(2);
        Given.edges(x, 0, 0, 0, 1, 1, 1, 0, 0);
        DUE.is("remove(0, 0)", x.remove(0, 0), 2);
        DUE.is("remove(0, 0) again", x.remove(0, 0), 0);
        DUE.is("cut(1)", x.cut(1), true);
        DUE.is("cut(2)", x.cut(2), true);
    }

    private static void removeCountsThoseThatGo() {
        DUE.sentence("Promise 4: go: how many (not those that had gone)");
        CycleRows x = Given.keys(2);
        Given.edges(x, 0, 1, 0, 1, 0, 1);
        x.cut(0);
        x.cut(2);
        DUE.is("one of three", x.remove(0, 1), 1);
        Given.edges(x, 0, 1);
        DUE.is("a new one", x.remove(0, 1), 1);
        Given.edges(x, 0, 1);
        x.cut(4);
        DUE.is("none of five", x.remove(0, 1), 0);
    }

    private static void remove0IfNoEdgesBetween() {
        DUE.sentence("Promise 4: how many (0)");
        CycleRows x = Given.keys(40);
        DUE.is("remove(0, 0) without edges", x.remove(0, 0), 0);
        DUE.is("remove(39, 39) without edges", x.remove(39, 39), 0);
        Given.edges(x, 0, 1);
        DUE.is("remove(0, 0) with another edge", x.remove(0, 0), 0);
        DUE.is("remove(1, 0)", x.remove(1, 0), 0);
        DUE.is("remove(0, 39)", x.remove(0, 39), 0);
        DUE.is("the edge stays", x.cut(0), true);
    }

    private static void remove0IfNoSuchKeys() {
        DUE.sentence("Promise 4: (0 also if there are none such keys)");
        CycleRows x = Given.keys(3);
        Given.edges(x, 0, 0, 0, 1, 1, 2, 2, 0);
        for (int wrong : Given.WRONG) {
            DUE.is("remove(" + wrong + ", 0)", x.remove(wrong, 0), 0);
            DUE.is("remove(0, " + wrong + ")", x.remove(0, wrong), 0);
            DUE.is("remove(" + wrong + ", same)", x.remove(wrong, wrong), 0);
        }
        DUE.is("remove(3, 0)", x.remove(3, 0), 0);
        DUE.is("remove(0, 3)", x.remove(0, 3), 0);
        DUE.is("remove(40, 40)", x.remove(40, 40), 0);
        CycleRows empty = new CycleRows();
        DUE.is("no keys: remove(0, 0)", empty.remove(0, 0), 0);
        DUE.is("no keys: remove(-1, -1)", empty.remove(-1, -1), 0);
        CycleRows full = Given.keys(40);
        Given.fill(full, 39, 39);
        DUE.is("full: remove(40, 39)", full.remove(40, 39), 0);
        DUE.is("full: remove(39, 40)", full.remove(39, 40), 0);
    }

    private static void removeRefusedChangesNothing() {
        DUE.sentence("Promise 4: 0: the edges stay");
        CycleRows x = Given.keys(2);
        Given.edges(x, 0, 1, 1, 0);
        x.remove(-1, 0);
        x.remove(0, 2);
        x.remove(MIN, MAX);
        x.remove(0, 0);
        DUE.is("run", x.run(0), 1);
        DUE.is("size", x.size(0), 2);
        DUE.is("the next edge", x.edge(0, 0, 0, ALL), 2);
    }

    private static void cutFirstAndLast() {
        DUE.sentence("Promise 5: An edge goes");
        CycleRows x = Given.keys(1);
        Given.fill(x, 0, 0);
        DUE.is("cut(0)", x.cut(0), true);
        DUE.is("cut(159)", x.cut(159), true);
        x.run(0);
        DUE.is("the first that is there", x.ring(0, 0, 2), 1);
        DUE.is("those left", x.remove(0, 0), 158);
        x = Given.keys(1);
        x.edge(0, 0, 0, 0);
        DUE.is("one in no configuration", x.cut(0), true);
        x.edge(0, 0, 0, ALL);
        x.cut(1);
        for (int c = 0; c < 8; c++) {
            DUE.is("gone in " + c, x.run(c), 0);
        }
    }

    private static void cutFalseIfNoneSuch() {
        DUE.sentence("Promise 5: false if there is none such");
        DUE.is("no keys: cut(0)", new CycleRows().cut(0), false);
        CycleRows x = Given.keys(1);
        DUE.is("no edges: cut(0)", x.cut(0), false);
        x.edge(0, 0, 0, ALL);
        DUE.is("cut(1)", x.cut(1), false);
        DUE.is("cut(159)", x.cut(159), false);
        for (int wrong : Given.WRONG) {
            DUE.is("cut(" + wrong + ")", x.cut(wrong), false);
        }
        Given.fill(x, 0, 0);
        for (int wrong : Given.WRONG) {
            DUE.is("full: cut(" + wrong + ")", x.cut(wrong), false);
        }
        DUE.is("all stay", x.remove(0, 0), 160);
    }

    private static void cutFalseBeforeItComes() {
        DUE.sentence("Promise 5: false if there is none such (yet)");
        CycleRows x = Given.keys(1);
        DUE.is("cut(0)", x.cut(0), false);
        DUE.is("cut(1)", x.cut(1), false);
        x.edge(0, 0, 0, ALL);
        DUE.is("the edge that came is there", x.run(0), 1);
        DUE.is("cut(0) now", x.cut(0), true);
    }

    private static void cutFalseIfItWasCut() {
        DUE.sentence("Promise 5: false if .. it has gone (by cut)");
        CycleRows x = Given.keys(1);
        Given.fill(x, 0, 0);
        for (int edge = 0; edge < 160; edge += 53) {
            DUE.is("cut(" + edge + ")", x.cut(edge), true);
            DUE.is("cut(" + edge + ") again", x.cut(edge), false);
            DUE.is("cut(" + edge + ") once more", x.cut(edge), false);
        }
    }

    private static void cutFalseIfItWasRemoved() {
        DUE.sentence("Promise 5: false if .. it has gone (by remove)");
        CycleRows x = Given.keys(2);
        Given.edges(x, 0, 1, 0, 1, 1, 0);
        x.remove(0, 1);
        DUE.is("cut(0)", x.cut(0), false);
        DUE.is("cut(1)", x.cut(1), false);
        DUE.is("cut(2)", x.cut(2), true);
    }

    private static void cutRefusedChangesNothing() {
        DUE.sentence("Promise 5: false: the edges stay");
        CycleRows x = Given.keys(2);
        Given.edges(x, 0, 1, 1, 0, 0, 0);
        x.cut(2);
        x.cut(2);
        x.cut(-1);
        x.cut(3);
        DUE.is("run", x.run(0), 1);
        DUE.is("size", x.size(0), 2);
        DUE.is("the next edge", x.edge(0, 0, 0, ALL), 3);
        DUE.is("it is there", x.ask(0), 2);
        DUE.is("remove(0, 0)", x.remove(0, 0), 1);
    }
}
