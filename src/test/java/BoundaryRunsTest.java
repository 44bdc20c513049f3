/** The boundaries that promises 6 to 13 name, sentence by sentence. */
public final class BoundaryRunsTest {
    private static final int NONE = Given.NONE;
    private static final int ALL = Given.ALL;
    private static final int MIN = Given.MIN;
    private static final int MAX = Given.MAX;

    private static final Due DUE = new Due("BoundaryRunsTest");

    public static void main(String[] args) {
        runHowMany();
        runIn0And7();
        runNoneIfNot0To7();
        runRefusedChangesNothing();
        sizeFrom1To40();
        sizeByTheLatestRun();
        sizeAfterARefusedRun();
        size0BeforeARun();
        size0IfNoneSuch();
        ringAtAPlaceFrom0();
        ringEdgeOfTheLastKey();
        ringNoneBeforeARun();
        ringNoneIfNoSuchRing();
        ringNoneIfNoSuchPlace();
        ringNoneForAnotherWhat();
        ringAfterItsEdgesWent();
        onlyInEachConfiguration();
        onlyNoneIfAnotherHas();
        onlyIfOthersLackOneStep();
        onlyByOtherEdges();
        onlyByTheEdgesAsTheyWere();
        onlyNoneIfNoneSuch();
        newestFirstAndLastEdge();
        newestAsTold();
        newestNoneIfNoneSuch();
        for (int promise = 11; promise <= 13; promise++) {
            noneIfThereWasNoRun(promise);
            noneIfThereIsNoSuchKey(promise);
            noneIfTheKeyCameLater(promise);
        }
        least0IfThereIsNone();
        leastShortestOfMany();
        keysByThatRun();
        DUE.end();
    }

    /** Keys 0 and 1 in a ring, 2 waiting for it, 3 in a ring of its own, 4 without edges. */
    private static CycleRows twoRings() {
        CycleRows x = Given.keys(5);
        x.edge(0, 1, 7, 1);
        x.edge(1, 0, 8, 1);
        x.edge(2, 0, 9, 1);
        x.edge(3, 3, 6, 1);
        return x;
    }

    /** What the run in configuration 0 tells of twoRings(), call by call. */
    private static void twoRingsAreTold(CycleRows x) {
        DUE.ringIs("ring 0", x, 0, 0, 1);
        DUE.ringIs("ring 1", x, 1, 3);
        DUE.is("size(2)", x.size(2), 0);
        DUE.is("ring(0, 0, 1)", x.ring(0, 0, 1), 7);
        DUE.is("ring(0, 1, 1)", x.ring(0, 1, 1), 8);
        DUE.is("ring(0, 1, 2)", x.ring(0, 1, 2), 1);
        DUE.is("ring(1, 0, 2)", x.ring(1, 0, 2), 3);
        DUE.is("only(0)", x.only(0), 0);
        DUE.is("only(1)", x.only(1), 0);
        DUE.is("newest(0)", x.newest(0), 1);
        DUE.is("newest(1)", x.newest(1), 3);
        int[] parts = {0, 0, 1, 2, 3, NONE};
        int[] states = {2, 2, 1, 2, 0, NONE};
        int[] leasts = {2, 2, 0, 1, 0, NONE};
        for (int key = 0; key < 6; key++) {
            DUE.is("strong(" + key + ")", x.strong(key), parts[key]);
            DUE.is("state(" + key + ")", x.state(key), states[key]);
            DUE.is("least(" + key + ")", x.least(key), leasts[key]);
        }
    }

    private static void runHowMany() {
        DUE.sentence("Promise 6: RINGS are TOLD in a CONFIGURATION: how many");
        CycleRows x = new CycleRows();
        DUE.is("no keys", x.run(0), 0);
        x.key(0);
        DUE.is("no edges", x.run(0), 0);
        for (int key = 1; key < 40; key++) {
            x.key(key);
        }
        for (int key = 0; key < 40; key++) {
            x.edge(key, key, 0, ALL);
            DUE.is("one for each key that asks itself", x.run(0), key + 1);
        }
        Given.chain(x, 0, 39);
        x.edge(39, 0, 0, ALL);
        DUE.is("all in one part", x.run(0), 1);
        DUE.is("the same again", x.run(0), 1);
    }

    private static void runIn0And7() {
        DUE.sentence("Promise 6: a CONFIGURATION (0 .. 7)");
        CycleRows x = Given.keys(1);
        for (int c = 0; c < 8; c++) {
            DUE.is("run(" + c + ")", x.run(c), 0);
        }
        x.edge(0, 0, 0, 1);
        x.edge(0, 0, 0, 128);
        DUE.is("run(0)", x.run(0), 1);
        DUE.is("its edge", x.ring(0, 0, 2), 0);
        DUE.is("run(7)", x.run(7), 1);
        DUE.is("its edge", x.ring(0, 0, 2), 1);
        for (int c = 1; c < 7; c++) {
            DUE.is("run(" + c + ")", x.run(c), 0);
        }
    }

    private static void runNoneIfNot0To7() {
        DUE.sentence("Promise 6: NONE if it isn't 0 .. 7");
        CycleRows x = Given.keys(1);
        x.edge(0, 0, 0, -1);
        for (int wrong : Given.WRONG) {
            DUE.is("run(" + wrong + ")", x.run(wrong), NONE);
        }
        for (int c = 8; c < 72; c++) {
            DUE.is("run(" + c + ")", x.run(c), NONE);
            DUE.is("run(" + -c + ")", x.run(-c), NONE);
        }
        DUE.is("no keys: run(-1)", new CycleRows().run(-1), NONE);
        DUE.is("no keys: run(8)", new CycleRows().run(8), NONE);
    }

    private static void runRefusedChangesNothing() {
        DUE.sentence("Promise 6: NONE: what was told stays");
        CycleRows x = twoRings();
        x.run(0);
        x.ask(2);
        x.edge(4, 4, 0, ALL);
        x.key(-1);
        for (int wrong : Given.WRONG) {
            x.run(wrong);
        }
        x.run(8);
        twoRingsAreTold(x);
        DUE.metIs("met", x, 0, 1);
        DUE.is("ask", x.ask(2), 2);
    }

    private static void sizeFrom1To40() {
        DUE.sentence("Promise 7: How many keys a ring has");
        for (int count = 1; count <= 40; count++) {
            CycleRows x = Given.keys(40);
            Given.chain(x, 0, count - 1);
            x.edge(count - 1, 0, 0, ALL);
            x.run(0);
            DUE.is("a ring of " + count, x.size(0), count);
        }
    }

    private static void sizeByTheLatestRun() {
        DUE.sentence("Promise 7: by the latest run");
        CycleRows x = Given.keys(3);
        x.edge(0, 0, 0, 1);
        x.edge(1, 1, 0, 1);
        x.edge(1, 2, 0, 2);
        x.edge(2, 1, 0, 2);
        x.run(0);
        DUE.is("size(0) in 0", x.size(0), 1);
        DUE.is("size(1) in 0", x.size(1), 1);
        x.run(1);
        DUE.is("size(0) in 1", x.size(0), 2);
        DUE.is("size(1) in 1", x.size(1), 0);
        x.run(2);
        DUE.is("size(0) in 2", x.size(0), 0);
        x.run(0);
        x.remove(0, 0);
        x.remove(1, 1);
        DUE.is("size(0), its edges having gone", x.size(0), 1);
        x.run(0);
        DUE.is("size(0) by a run after that", x.size(0), 0);
    }

    private static void sizeAfterARefusedRun() {
        DUE.sentence("Promise 7: by the latest run that wasn't NONE");
        CycleRows x = Given.keys(1);
        x.edge(0, 0, 0, ALL);
        x.run(8);
        DUE.is("only a run that was NONE", x.size(0), 0);
        x.run(0);
        x.run(8);
        x.run(-1);
        DUE.is("then two that were NONE", x.size(0), 1);
    }

    private static void size0BeforeARun() {
        DUE.sentence("Promise 7: 0 if there is none such (no run)");
        CycleRows x = twoRings();
        DUE.is("size(0)", x.size(0), 0);
        DUE.is("size(-1)", x.size(-1), 0);
        DUE.is("size(MAX)", x.size(MAX), 0);
    }

    private static void size0IfNoneSuch() {
        DUE.sentence("Promise 7: 0 if there is none such");
        CycleRows x = twoRings();
        x.run(0);
        for (int wrong : Given.WRONG) {
            DUE.is("size(" + wrong + ")", x.size(wrong), 0);
        }
        for (int i = 2; i < 42; i++) {
            DUE.is("size(" + i + ")", x.size(i), 0);
        }
        x.run(1);
        DUE.is("size(0) without rings", x.size(0), 0);
        CycleRows empty = new CycleRows();
        empty.run(0);
        DUE.is("size(0) without keys", empty.size(0), 0);
        CycleRows full = Given.keys(40);
        for (int key = 0; key < 40; key++) {
            full.edge(key, key, 0, ALL);
        }
        full.run(0);
        DUE.is("full: size(39)", full.size(39), 1);
        for (int wrong : Given.WRONG) {
            DUE.is("full: size(" + wrong + ")", full.size(wrong), 0);
        }
        DUE.is("full: size(40)", full.size(40), 0);
    }

    private static void ringAtAPlaceFrom0() {
        DUE.sentence("Promise 8: at a place from 0: 0 the key, 1 the PLACE .., 2 that edge");
        CycleRows x = Given.keys(40);
        for (int key = 39; key >= 0; key--) {
            x.edge(key, (key + 1) % 40, key - 20, ALL);
        }
        x.run(0);
        for (int k = 0; k < 40; k++) {
            DUE.is("ring(0, " + k + ", 0)", x.ring(0, k, 0), k);
            DUE.is("ring(0, " + k + ", 1)", x.ring(0, k, 1), k - 20);
            DUE.is("ring(0, " + k + ", 2)", x.ring(0, k, 2), 39 - k);
        }
    }

    private static void ringEdgeOfTheLastKey() {
        DUE.sentence("Promise 8: the edge to the next one (from the last key to the first)");
        CycleRows x = Given.keys(4);
        x.edge(2, 3, 1, ALL);
        x.edge(3, 2, 2, ALL);
        x.edge(0, 1, 3, ALL);
        x.edge(1, 0, 4, ALL);
        x.edge(1, 2, MIN, ALL);
        x.run(0);
        DUE.is("place, ring 0", x.ring(0, 1, 1), 4);
        DUE.is("edge, ring 0", x.ring(0, 1, 2), 3);
        DUE.is("place, ring 1", x.ring(1, 1, 1), 2);
        DUE.is("edge, ring 1", x.ring(1, 1, 2), 1);
    }

    private static void ringNoneBeforeARun() {
        DUE.sentence("Promise 8: NONE if there is none such (no run)");
        CycleRows x = twoRings();
        for (int what = 0; what < 3; what++) {
            DUE.is("ring(0, 0, " + what + ")", x.ring(0, 0, what), NONE);
        }
        x.run(8);
        for (int what = 0; what < 3; what++) {
            DUE.is("refused: ring(0, 0, " + what + ")", x.ring(0, 0, what), NONE);
        }
    }

    private static void ringNoneIfNoSuchRing() {
        DUE.sentence("Promise 8: NONE if there is none such (ring)");
        CycleRows x = twoRings();
        x.run(0);
        for (int what = 0; what < 3; what++) {
            for (int wrong : Given.WRONG) {
                DUE.is("ring(" + wrong + ", 0, " + what + ")", x.ring(wrong, 0, what), NONE);
            }
            DUE.is("ring(2, 0, " + what + ")", x.ring(2, 0, what), NONE);
            DUE.is("ring(2, -1, " + what + ")", x.ring(2, -1, what), NONE);
            DUE.is("ring(-1, 2, " + what + ")", x.ring(-1, 2, what), NONE);
            DUE.is("ring(40, 0, " + what + ")", x.ring(40, 0, what), NONE);
        }
        x.run(1);
        DUE.is("no rings: ring(0, 0, 0)", x.ring(0, 0, 0), NONE);
        DUE.is("no rings: ring(0, 0, 1)", x.ring(0, 0, 1), NONE);
        DUE.is("no rings: ring(0, 0, 2)", x.ring(0, 0, 2), NONE);
    }

    private static void ringNoneIfNoSuchPlace() {
        DUE.sentence("Promise 8: NONE if there is none such (place)");
        CycleRows x = twoRings();
        x.run(0);
        for (int what = 0; what < 3; what++) {
            for (int wrong : Given.WRONG) {
                DUE.is("ring(0, " + wrong + ", " + what + ")", x.ring(0, wrong, what), NONE);
                DUE.is("ring(1, " + wrong + ", " + what + ")", x.ring(1, wrong, what), NONE);
            }
            DUE.is("not the next ring's first", x.ring(0, 2, what), NONE);
            DUE.is("not the ring's before last", x.ring(1, -1, what), NONE);
            DUE.is("behind the last ring", x.ring(1, 1, what), NONE);
            DUE.is("ring(1, 40, " + what + ")", x.ring(1, 40, what), NONE);
        }
    }

    private static void ringNoneForAnotherWhat() {
        DUE.sentence("Promise 8: NONE .. for another what");
        CycleRows x = twoRings();
        x.run(0);
        for (int wrong : Given.WRONG) {
            DUE.is("ring(0, 0, " + wrong + ")", x.ring(0, 0, wrong), NONE);
            DUE.is("ring(0, 1, " + wrong + ")", x.ring(0, 1, wrong), NONE);
        }
        for (int what = 3; what < 41; what++) {
            DUE.is("ring(0, 1, " + what + ")", x.ring(0, 1, what), NONE);
        }
        DUE.is("ring(2, 0, 3)", x.ring(2, 0, 3), NONE);
    }

    private static void ringAfterItsEdgesWent() {
        DUE.sentence("Promise 8: Of a ring of that run");
        CycleRows x = twoRings();
        x.run(0);
        x.cut(0);
        x.remove(1, 0);
        x.remove(3, 3);
        x.edge(0, 1, MIN, ALL);
        x.edge(1, 0, MIN, ALL);
        twoRingsAreTold(x);
    }

    private static void onlyInEachConfiguration() {
        DUE.sentence("Promise 9: The CONFIGURATION of that run, if no other one has");
        CycleRows x = Given.keys(2);
        for (int c = 0; c < 8; c++) {
            x.edge(0, 0, c, 1 << c);
            x.run(c);
            DUE.is("a ring in " + c + " alone", x.only(0), c);
            x.remove(0, 0);
        }
        for (int c = 0; c < 8; c++) {
            x.edge(0, 1, 0, ALL);
            x.edge(1, 0, 0, 1 << c);
            x.run(c);
            DUE.is("one step in " + c + " alone", x.only(0), c);
            x.remove(1, 0);
        }
    }

    private static void onlyNoneIfAnotherHas() {
        DUE.sentence("Promise 9: NONE if another one has");
        for (int c = 0; c < 8; c++) {
            for (int other = 0; other < 8; other++) {
                CycleRows x = Given.keys(2);
                x.edge(0, 1, 0, 1 << c | 1 << other);
                x.edge(1, 0, 0, 1 << c | 1 << other);
                x.run(c);
                DUE.is(c + " and " + other, x.only(0), c == other ? c : NONE);
            }
        }
    }

    private static void onlyIfOthersLackOneStep() {
        DUE.sentence("Promise 9: has all keys of a ring of it asking the next one");
        for (int lacking = 0; lacking < 40; lacking++) {
            CycleRows x = Given.keys(40);
            for (int key = 0; key < 40; key++) {
                x.edge(key, (key + 1) % 40, 0, key == lacking ? 1 : 3);
            }
            x.run(0);
            DUE.is("the other lacks that of " + lacking, x.only(0), 0);
            x.edge(lacking, (lacking + 1) % 40, MAX, 2);
            x.run(0);
            DUE.is("the other lacks none", x.only(0), NONE);
        }
    }

    private static void onlyByOtherEdges() {
        DUE.sentence("Promise 9: another one has (by other edges, its own ring being less)");
        CycleRows x = Given.keys(2);
        x.edge(0, 1, 0, 1);
        x.edge(1, 0, 0, 1);
        x.edge(0, 1, 9, 128);
        x.edge(1, 0, 9, 128);
        x.edge(0, 0, 0, 128);
        x.run(0);
        DUE.is("in 0", x.only(0), NONE);
        x.run(7);
        DUE.is("the less one, in 7", x.only(0), 7);
        x.cut(3);
        x.edge(1, 0, 9, 64);
        x.run(0);
        DUE.is("two others have half of it each", x.only(0), 0);
    }

    private static void onlyByTheEdgesAsTheyWere() {
        DUE.sentence("Promise 9: (by the edges as they were then)");
        CycleRows x = Given.keys(1);
        x.edge(0, 0, 0, 1);
        x.run(0);
        x.edge(0, 0, 0, 2);
        DUE.is("another one has it since", x.only(0), 0);
        x.run(0);
        DUE.is("had it then", x.only(0), NONE);
        x.cut(1);
        DUE.is("has it no more", x.only(0), NONE);
        x.run(0);
        x.cut(0);
        DUE.is("none has it now", x.only(0), 0);
        x.run(9);
        DUE.is("after a run that was NONE", x.only(0), 0);
    }

    private static void onlyNoneIfNoneSuch() {
        DUE.sentence("Promise 9: NONE if .. there is none such");
        CycleRows x = twoRings();
        DUE.is("no run: only(0)", x.only(0), NONE);
        x.run(0);
        for (int wrong : Given.WRONG) {
            DUE.is("only(" + wrong + ")", x.only(wrong), NONE);
        }
        DUE.is("only(2)", x.only(2), NONE);
        DUE.is("only(40)", x.only(40), NONE);
        x.run(1);
        DUE.is("no rings: only(0)", x.only(0), NONE);
        DUE.is("no rings: only(1)", x.only(1), NONE);
    }

    private static void newestFirstAndLastEdge() {
        DUE.sentence("Promise 10: The EDGE of a ring .. that came last");
        CycleRows x = Given.keys(3);
        x.edge(0, 0, 0, 1);
        x.run(0);
        DUE.is("the first edge", x.newest(0), 0);
        x.edge(1, 2, 0, 2);
        x.edge(2, 0, 0, 2);
        x.edge(0, 1, 0, 2);
        x.run(1);
        DUE.is("from the first key", x.newest(0), 3);
        Given.fill(x, 2, 2);
        x.cut(159);
        x.run(0);
        DUE.is("the first of many alike", x.newest(1), 4);
        CycleRows full = Given.keys(3);
        for (int n = 0; n < 158; n++) {
            full.edge(0, 1, 0, 0);
        }
        full.edge(1, 0, 0, ALL);
        full.edge(0, 1, 0, ALL);
        full.run(0);
        DUE.is("the last edge, 159", full.newest(0), 159);
    }

    private static void newestAsTold() {
        DUE.sentence("Promise 10: of a ring, as TOLD");
        CycleRows x = Given.keys(2);
        Given.edges(x, 0, 1, 1, 0);
        x.edge(0, 1, 0, ALL);
        x.edge(0, 1, MAX, ALL);
        x.run(0);
        DUE.is("later ones at no lesser place", x.newest(0), 1);
        x.edge(0, 1, -1, ALL);
        DUE.is("one that came after the run", x.newest(0), 1);
        x.cut(1);
        DUE.is("its edge having gone", x.newest(0), 1);
        x.run(8);
        DUE.is("after a run that was NONE", x.newest(0), 1);
        x.edge(1, 0, 0, ALL);
        x.cut(4);
        x.run(0);
        DUE.is("by the next run", x.newest(0), 5);
    }

    private static void newestNoneIfNoneSuch() {
        DUE.sentence("Promise 10: NONE if there is none such");
        CycleRows x = twoRings();
        DUE.is("no run: newest(0)", x.newest(0), NONE);
        x.run(0);
        for (int wrong : Given.WRONG) {
            DUE.is("newest(" + wrong + ")", x.newest(wrong), NONE);
        }
        DUE.is("newest(2)", x.newest(2), NONE);
        DUE.is("newest(40)", x.newest(40), NONE);
        x.run(1);
        DUE.is("no rings: newest(0)", x.newest(0), NONE);
        DUE.is("no rings: newest(1)", x.newest(1), NONE);
    }

    /** Promises 11 to 13 name the same boundaries of a key: what each of them answers of it. */
    private static int ofKey(int promise, CycleRows x, int key) {
        return promise == 11 ? x.strong(key) : promise == 12 ? x.state(key) : x.least(key);
    }

    private static void noneIfThereWasNoRun(int promise) {
        DUE.sentence("Promise " + promise + ": NONE if there was none (no run)");
        CycleRows x = twoRings();
        DUE.is("no run", ofKey(promise, x, 0), NONE);
        x.run(8);
        x.run(-1);
        DUE.is("only runs that were NONE", ofKey(promise, x, 0), NONE);
        x.run(7);
        DUE.is("a run", ofKey(promise, x, 0), 0);
        DUE.is("no run, no key", ofKey(promise, new CycleRows(), 0), NONE);
    }

    private static void noneIfThereIsNoSuchKey(int promise) {
        DUE.sentence("Promise " + promise + ": NONE if .. the key wasn't there (at all)");
        CycleRows x = twoRings();
        CycleRows full = Given.keys(40);
        CycleRows empty = new CycleRows();
        x.run(0);
        full.run(0);
        empty.run(0);
        for (int wrong : Given.WRONG) {
            DUE.is("of " + wrong, ofKey(promise, x, wrong), NONE);
            DUE.is("full: of " + wrong, ofKey(promise, full, wrong), NONE);
            DUE.is("no keys: of " + wrong, ofKey(promise, empty, wrong), NONE);
        }
        DUE.is("of 3", ofKey(promise, x, 3), promise == 13 ? 1 : 2);
        DUE.is("of 5", ofKey(promise, x, 5), NONE);
        DUE.is("of 39", ofKey(promise, x, 39), NONE);
        DUE.is("full: of 39", ofKey(promise, full, 39), promise == 11 ? 39 : 0);
        DUE.is("full: of 40", ofKey(promise, full, 40), NONE);
        DUE.is("no keys: of 0", ofKey(promise, empty, 0), NONE);
    }

    private static void noneIfTheKeyCameLater(int promise) {
        DUE.sentence("Promise " + promise + ": NONE if .. the key wasn't there (by that run)");
        CycleRows x = new CycleRows();
        x.run(0);
        x.key(5);
        x.edge(0, 0, 0, ALL);
        DUE.is("of 0, later", ofKey(promise, x, 0), NONE);
        x.run(0);
        x.key(6);
        x.edge(1, 1, 0, ALL);
        x.run(8);
        DUE.is("of 0, there", ofKey(promise, x, 0), promise == 11 ? 0 : 14 - promise);
        DUE.is("of 1, later", ofKey(promise, x, 1), NONE);
        x.run(0);
        DUE.is("of 1, now", ofKey(promise, x, 1), promise == 12 ? 2 : 1);
    }

    private static void least0IfThereIsNone() {
        DUE.sentence("Promise 13: 0 if there is none");
        CycleRows x = twoRings();
        x.edge(0, 4, 0, 1);
        x.run(0);
        DUE.is("it waits", x.least(2), 0);
        DUE.is("behind a ring", x.least(4), 0);
        x.run(1);
        for (int key = 0; key < 5; key++) {
            DUE.is("without edges: least(" + key + ")", x.least(key), 0);
        }
    }

    private static void leastShortestOfMany() {
        DUE.sentence("Promise 13: How many keys the shortest RING has that a key is in");
        CycleRows x = Given.keys(40);
        Given.chain(x, 0, 39);
        for (int key = 0; key < 40; key++) {
            x.edge(39, key, 0, ALL);
            x.edge(key, 39, 0, 2);
        }
        x.run(0);
        for (int key = 0; key < 40; key++) {
            DUE.is("in 0: least(" + key + ")", x.least(key), 40 - key);
        }
        x.run(1);
        for (int key = 0; key < 40; key++) {
            DUE.is("in 1: least(" + key + ")", x.least(key), key == 39 ? 1 : 2);
        }
    }

    private static void keysByThatRun() {
        DUE.sentence("Promises 7 to 13: by that run (whatever comes, goes and is asked after it)");
        CycleRows x = twoRings();
        x.run(0);
        x.key(-1);
        x.key(15);
        Given.edges(x, 4, 4, 2, 2, 0, 0, 0, 3, 3, 0, 5, 5);
        x.cut(0);
        x.remove(3, 3);
        x.ask(0);
        x.ask(9);
        x.run(-1);
        twoRingsAreTold(x);
        DUE.is("strong(6)", x.strong(6), NONE);
        DUE.is("run", x.run(0), 4);
    }
}
