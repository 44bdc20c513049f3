/** The boundaries that promises 14 and 15 name, sentence by sentence. */
public final class BoundaryAsksTest {
    private static final int NONE = Given.NONE;
    private static final int ALL = Given.ALL;
    private static final int MIN = Given.MIN;
    private static final int MAX = Given.MAX;

    private static final Due DUE = new Due("BoundaryAsksTest");

    public static void main(String[] args) {
        askHowMany();
        askEdgesAsTheyCame();
        askBeforeTheNextEdge();
        askUntilAKeyThatHasNotEnded();
        askFromThatKeyOn();
        askManyEdges();
        askInTheConfigurationOfTheLatestRun();
        askAfterARefusedRun();
        askByTheEdgesOfNow();
        askKeysOfNow();
        askNoneAskedBefore();
        ask0IfNoneIsMet();
        askNoneIfNoneSuch();
        askNoneIfNoRun();
        askTellsNothingElse();
        metFrom0();
        metNoneIfNoneSuch();
        metNoneBeforeAnAsk();
        metNoneIfNoneWasMet();
        metOfAShorterRing();
        metByTheLatestAskThatWasNotNone();
        metWhateverComesAfter();
        DUE.end();
    }

    private static void askHowMany() {
        DUE.sentence("Promise 14: how many keys the RING met has");
        for (int count = 1; count <= 40; count++) {
            CycleRows x = Given.keys(40);
            Given.chain(x, 0, 39);
            x.edge(39, 40 - count, 0, ALL);
            x.run(0);
            DUE.is("a ring of " + count + " at the end of all", x.ask(0), count);
            DUE.is("its first", x.met(0), 40 - count);
            DUE.is("its last", x.met(count - 1), 39);
            DUE.is("behind its last", x.met(count), NONE);
        }
    }

    private static void askEdgesAsTheyCame() {
        DUE.sentence("Terms: ASKING a KEY goes its EDGES in the order in which they came");
        CycleRows x = Given.named(30, 20, 10);
        x.edge(0, 1, MAX, ALL);
        x.edge(0, 2, MIN, ALL);
        x.edge(1, 1, 0, ALL);
        x.edge(2, 2, 0, ALL);
        x.run(0);
        DUE.is("not by place, not by name", x.ask(0), 1);
        DUE.metIs("the first edge", x, 1);
        x.cut(0);
        x.edge(0, 1, MIN, ALL);
        DUE.is("the first has gone", x.ask(0), 1);
        DUE.metIs("the second edge", x, 2);
    }

    private static void askBeforeTheNextEdge() {
        DUE.sentence("Terms: asking each KEY that hasn't been asked, before the next EDGE");
        CycleRows x = Given.keys(40);
        Given.chain(x, 0, 39);
        x.edge(0, 0, 0, ALL);
        x.edge(39, 20, 0, ALL);
        x.run(0);
        DUE.is("the far ring before the near one", x.ask(0), 20);
        x.cut(40);
        DUE.is("the near one then", x.ask(0), 1);
        DUE.metIs("the near one then", x, 0);
    }

    private static void askUntilAKeyThatHasNotEnded() {
        DUE.sentence("Terms: until an EDGE leads to a KEY whose asking hasn't come to its end");
        CycleRows x = Given.keys(4);
        Given.edges(x, 0, 1, 0, 2, 1, 3, 2, 3, 2, 1, 0, 3, 0, 1);
        x.run(0);
        DUE.is("keys that came to their end", x.ask(0), 0);
        Given.edges(x, 0, 2, 2, 0, 3, 2);
        DUE.is("the first that hasn't", x.ask(0), 2);
        DUE.metIs("the first that hasn't", x, 3, 2);
        x.cut(3);
        DUE.is("the next that hasn't", x.ask(0), 3);
        DUE.metIs("the next that hasn't", x, 1, 3, 2);
    }

    private static void askFromThatKeyOn() {
        DUE.sentence("Terms: the RING met is that KEY and those asked from it on .. in the order");
        CycleRows x = Given.keys(6);
        Given.edges(x, 5, 4, 4, 0, 4, 2, 2, 1, 2, 3, 3, 4);
        x.run(0);
        DUE.is("neither before it nor at its end", x.ask(5), 3);
        DUE.metIs("neither before it nor at its end", x, 4, 2, 3);
        DUE.is("from another key", x.ask(3), 3);
        DUE.metIs("from another key", x, 3, 4, 2);
    }

    private static void askManyEdges() {
        DUE.sentence("Terms: ASKING a KEY goes its EDGES (160 of them)");
        CycleRows x = Given.keys(2);
        for (int n = 0; n < 159; n++) {
            x.edge(0, 1, 0, ALL);
        }
        x.edge(0, 0, 0, ALL);
        x.run(0);
        DUE.is("the last edge", x.ask(0), 1);
        DUE.metIs("the last edge", x, 0);
        x.cut(159);
        DUE.is("none is left that leads back", x.ask(0), 0);
    }

    private static void askInTheConfigurationOfTheLatestRun() {
        DUE.sentence("Promise 14: in the CONFIGURATION of the latest run");
        CycleRows x = Given.keys(8);
        for (int c = 0; c < 8; c++) {
            for (int key = 0; key <= c; key++) {
                x.edge(key, key == c ? 0 : key + 1, 0, 1 << c);
            }
        }
        for (int c = 7; c >= 0; c--) {
            x.run(c);
            DUE.is("in " + c, x.ask(0), c + 1);
        }
    }

    private static void askAfterARefusedRun() {
        DUE.sentence("Promise 14: the latest run (one that was NONE has no CONFIGURATION)");
        CycleRows x = Given.keys(1);
        x.edge(0, 0, 0, 2);
        x.run(1);
        for (int wrong : Given.WRONG) {
            x.run(wrong);
            DUE.is("after run(" + wrong + ")", x.ask(0), 1);
        }
        x.run(8);
        DUE.is("after run(8)", x.ask(0), 1);
        x.run(0);
        x.run(9);
        DUE.is("after run(0) and run(9)", x.ask(0), 0);
    }

    private static void askByTheEdgesOfNow() {
        DUE.sentence("Promise 14: by the edges as they are now");
        CycleRows x = Given.keys(2);
        x.run(0);
        DUE.is("no edges", x.ask(0), 0);
        Given.edges(x, 0, 1, 1, 0);
        DUE.is("edges that came", x.ask(0), 2);
        x.cut(1);
        DUE.is("one was cut", x.ask(0), 0);
        Given.edges(x, 1, 1);
        DUE.is("another came", x.ask(0), 1);
        x.remove(0, 1);
        DUE.is("one was removed", x.ask(0), 0);
        DUE.is("the other stays", x.ask(1), 1);
    }

    private static void askKeysOfNow() {
        DUE.sentence("Promise 14: by the edges as they are now (to keys that came after the run)");
        CycleRows x = new CycleRows();
        x.run(0);
        DUE.is("no key yet", x.ask(0), NONE);
        for (int key = 0; key < 40; key++) {
            x.key(-key);
        }
        DUE.is("a later key", x.ask(39), 0);
        Given.chain(x, 0, 39);
        x.edge(39, 0, 0, ALL);
        DUE.is("40 later keys", x.ask(0), 40);
        DUE.is("the last of them", x.met(39), 39);
    }

    private static void askNoneAskedBefore() {
        DUE.sentence("Promise 14: none having been asked before");
        CycleRows x = Given.keys(3);
        Given.edges(x, 0, 1, 1, 2, 2, 1);
        x.run(0);
        for (int n = 0; n < 3; n++) {
            DUE.is("ask(0) again", x.ask(0), 2);
            DUE.metIs("ask(0) again", x, 1, 2);
            DUE.is("ask(2) again", x.ask(2), 2);
            DUE.metIs("ask(2) again", x, 2, 1);
        }
        x.cut(2);
        DUE.is("none met", x.ask(0), 0);
        Given.edges(x, 2, 0);
        DUE.is("a ring after that", x.ask(0), 3);
        DUE.metIs("a ring after that", x, 0, 1, 2);
    }

    private static void ask0IfNoneIsMet() {
        DUE.sentence("Promise 14: 0 if none is met");
        CycleRows x = Given.keys(40);
        x.run(0);
        DUE.is("no edges: ask(0)", x.ask(0), 0);
        DUE.is("no edges: ask(39)", x.ask(39), 0);
        Given.chain(x, 0, 39);
        DUE.is("a chain of 40", x.ask(0), 0);
        x.edge(0, 39, 0, ALL);
        x.edge(0, 20, 0, ALL);
        DUE.is("ways that meet again", x.ask(0), 0);
        x.edge(20, 20, 0, ALL);
        DUE.is("a ring that isn't reached", x.ask(21), 0);
        DUE.is("and one that is", x.ask(19), 1);
        x.run(8);
        x.cut(41);
        DUE.is("gone", x.ask(0), 0);
    }

    private static void askNoneIfNoneSuch() {
        DUE.sentence("Promise 14: NONE if there is none such");
        CycleRows x = Given.keys(3);
        Given.edges(x, 0, 0, 1, 1, 2, 2);
        x.run(0);
        for (int wrong : Given.WRONG) {
            DUE.is("ask(" + wrong + ")", x.ask(wrong), NONE);
        }
        DUE.is("ask(2)", x.ask(2), 1);
        DUE.is("ask(3)", x.ask(3), NONE);
        DUE.is("ask(39)", x.ask(39), NONE);
        DUE.is("ask(40)", x.ask(40), NONE);
        CycleRows full = Given.keys(40);
        full.run(0);
        DUE.is("full: ask(39)", full.ask(39), 0);
        DUE.is("full: ask(40)", full.ask(40), NONE);
        CycleRows empty = new CycleRows();
        empty.run(0);
        DUE.is("no keys: ask(0)", empty.ask(0), NONE);
        DUE.is("no keys: ask(-1)", empty.ask(-1), NONE);
    }

    private static void askNoneIfNoRun() {
        DUE.sentence("Promise 14: NONE if .. there was no run");
        CycleRows x = Given.keys(1);
        x.edge(0, 0, 0, -1);
        DUE.is("no run", x.ask(0), NONE);
        x.run(-1);
        x.run(8);
        DUE.is("only runs that were NONE", x.ask(0), NONE);
        DUE.is("met", x.met(0), NONE);
        x.run(7);
        DUE.is("a run", x.ask(0), 1);
        DUE.is("no key, no run", new CycleRows().ask(0), NONE);
    }

    private static void askTellsNothingElse() {
        DUE.sentence("Promise 14: ASKING a key (what the run told stays)");
        CycleRows x = Given.keys(3);
        Given.edges(x, 0, 1, 1, 0, 2, 0);
        x.run(0);
        x.edge(2, 2, 0, ALL);
        x.ask(2);
        x.ask(2);
        x.ask(-1);
        DUE.ringIs("the ring", x, 0, 0, 1);
        DUE.is("no other", x.size(1), 0);
        DUE.is("state(2)", x.state(2), 1);
        DUE.is("least(2)", x.least(2), 0);
        DUE.is("the next edge", x.edge(0, 0, 0, 0), 4);
    }

    private static void metFrom0() {
        DUE.sentence("Promise 15: A key of the RING met .. from 0");
        CycleRows x = Given.keys(40);
        Given.chain(x, 0, 39);
        x.edge(39, 0, 0, ALL);
        x.run(0);
        x.ask(17);
        for (int k = 0; k < 40; k++) {
            DUE.is("met(" + k + ")", x.met(k), (17 + k) % 40);
        }
    }

    private static void metNoneIfNoneSuch() {
        DUE.sentence("Promise 15: NONE if there is none such");
        CycleRows x = Given.keys(40);
        Given.edges(x, 0, 1, 1, 2, 2, 1);
        x.run(0);
        x.ask(0);
        for (int wrong : Given.WRONG) {
            DUE.is("met(" + wrong + ")", x.met(wrong), NONE);
        }
        for (int k = 2; k < 42; k++) {
            DUE.is("met(" + k + ")", x.met(k), NONE);
        }
        CycleRows full = Given.keys(40);
        Given.chain(full, 0, 39);
        full.edge(39, 0, 0, ALL);
        full.run(0);
        full.ask(0);
        for (int wrong : Given.WRONG) {
            DUE.is("full: met(" + wrong + ")", full.met(wrong), NONE);
        }
        DUE.is("full: met(39)", full.met(39), 39);
        DUE.is("full: met(40)", full.met(40), NONE);
    }

    private static void metNoneBeforeAnAsk() {
        DUE.sentence("Promise 15: NONE if there is none such (no ask)");
        CycleRows x = Given.keys(1);
        x.edge(0, 0, 0, ALL);
        DUE.is("no run, no ask", x.met(0), NONE);
        x.ask(0);
        DUE.is("no run", x.met(0), NONE);
        x.run(0);
        DUE.is("no ask", x.met(0), NONE);
        x.ask(1);
        DUE.is("only an ask that was NONE", x.met(0), NONE);
        x.ask(0);
        DUE.is("an ask", x.met(0), 0);
    }

    private static void metNoneIfNoneWasMet() {
        DUE.sentence("Promise 15: NONE if there is none such (none met: 0 isn't NONE)");
        CycleRows x = Given.keys(2);
        Given.edges(x, 0, 0);
        x.run(0);
        x.ask(0);
        DUE.is("met", x.met(0), 0);
        DUE.is("ask(1)", x.ask(1), 0);
        DUE.is("none met", x.met(0), NONE);
    }

    private static void metOfAShorterRing() {
        DUE.sentence("Promise 15: the RING met by the latest ask");
        CycleRows x = Given.keys(5);
        Given.edges(x, 0, 1, 1, 2, 2, 0, 3, 4, 4, 3);
        x.run(0);
        x.ask(0);
        DUE.metIs("three keys", x, 0, 1, 2);
        x.ask(3);
        DUE.metIs("two keys", x, 3, 4);
        x.ask(1);
        DUE.metIs("three keys again", x, 1, 2, 0);
    }

    private static void metByTheLatestAskThatWasNotNone() {
        DUE.sentence("Promise 15: the latest ask that wasn't NONE");
        CycleRows x = Given.keys(2);
        Given.edges(x, 0, 1, 1, 0);
        x.run(0);
        x.ask(1);
        for (int wrong : Given.WRONG) {
            x.ask(wrong);
            DUE.metIs("after ask(" + wrong + ")", x, 1, 0);
        }
        x.ask(2);
        x.ask(40);
        DUE.metIs("after ask(2) and ask(40)", x, 1, 0);
    }

    private static void metWhateverComesAfter() {
        DUE.sentence("Promise 15: the RING met by the latest ask (whatever comes after it)");
        CycleRows x = Given.keys(2);
        Given.edges(x, 0, 1, 1, 0);
        x.run(0);
        x.ask(1);
        x.key(-1);
        x.edge(1, 1, 0, ALL);
        x.cut(0);
        x.remove(1, 0);
        x.run(3);
        x.run(8);
        DUE.metIs("as it was", x, 1, 0);
    }
}
