/** The boundaries that the document's Terms name, sentence by sentence. */
public final class BoundaryTermsTest {
    private static final int NONE = Given.NONE;
    private static final int ALL = Given.ALL;
    private static final int MIN = Given.MIN;
    private static final int MAX = Given.MAX;

    private static final Due DUE = new Due("BoundaryTermsTest");

    public static void main(String[] args) {
        keysAtMost40();
        keysNumberedFrom0();
        namesAreAnyInts();
        noTwoNamesTheSame();
        edgesAtMost160();
        edgesThatWentCount();
        keyAsksItself();
        placeIsAnyInt();
        configurationsAreBits0To7();
        otherBitsMeanNothing();
        edgeWithoutConfigurations();
        edgeHasGone();
        orderOfNamesHasNoWrap();
        orderOfNamesNotOfNumbers();
        orderOfNamesHoweverTheyCome();
        smallestRing();
        largestRing();
        rowThatDoesNotClose();
        partOfOneAlone();
        partOfAll();
        partsInOrderOfFirstKeys();
        ringsOfPartsThatHaveOne();
        mostRings();
        fewestKeysFirst();
        fewestKeysByOneOfMany();
        fewestKeysBesideTheFirst();
        ringBeginsWithItsFirstKey();
        keysOneByOne();
        leastPlaceHasNoWrap();
        likePlacesFirstThatCame();
        waitsFarAway();
        waitsForTheFirstOrTheLast();
        ringedKeyDoesNotWait();
        valueWithoutEdgesAndBehindARing();
        objectIsUsedFor512Calls();
        DUE.end();
    }

    private static void keysAtMost40() {
        DUE.sentence("Terms: KEYS, at most 40");
        CycleRows x = Given.keys(39);
        DUE.is("the 40th", x.key(1000), 39);
        DUE.is("the 41st", x.key(1001), NONE);
        DUE.is("run", x.run(0), 0);
        DUE.is("strong(39)", x.strong(39), 39);
        DUE.is("strong(40)", x.strong(40), NONE);
    }

    private static void keysNumberedFrom0() {
        DUE.sentence("Terms: KEYS, numbered from 0");
        CycleRows x = new CycleRows();
        DUE.is("the first", x.key(17), 0);
        DUE.is("the second", x.key(16), 1);
        x.run(0);
        DUE.is("state(0)", x.state(0), 0);
        DUE.is("state(1)", x.state(1), 0);
        DUE.is("state(2)", x.state(2), NONE);
    }

    private static void namesAreAnyInts() {
        DUE.sentence("Terms: NAMES (any ints");
        int[] names = {0, -1, 1, MIN, MAX, MIN + 1, MAX - 1, 255, 256, 65536};
        CycleRows all = new CycleRows();
        for (int n = 0; n < names.length; n++) {
            DUE.is("first key(" + names[n] + ")", new CycleRows().key(names[n]), 0);
            DUE.is("next key(" + names[n] + ")", all.key(names[n]), n);
        }
    }

    private static void noTwoNamesTheSame() {
        DUE.sentence("Terms: NAMES, no two the same");
        int[] names = {0, -1, MIN, MAX};
        for (int name : names) {
            CycleRows x = new CycleRows();
            x.key(name);
            DUE.is("key(" + name + ") again", x.key(name), NONE);
        }
    }

    private static void edgesAtMost160() {
        DUE.sentence("Terms: EDGES, at most 160 in all, numbered from 0 as they come");
        CycleRows x = Given.keys(2);
        for (int n = 0; n < 160; n++) {
            DUE.is("the next edge", x.edge(n % 2, 1, 0, ALL), n);
        }
        DUE.is("the 161st", x.edge(0, 1, 0, ALL), NONE);
    }

    private static void edgesThatWentCount() {
        DUE.sentence("Terms: EDGES (also those that went count)");
        CycleRows x = Given.keys(2);
        for (int n = 0; n < 160; n++) {
            DUE.is("the next edge", x.edge(0, 1, 0, ALL), n);
            if (n % 2 == 0) {
                x.cut(n);
            } else {
                x.remove(0, 1);
            }
        }
        DUE.is("the 161st, all having gone", x.edge(0, 1, 0, ALL), NONE);
        DUE.is("none is there", x.remove(0, 1), 0);
    }

    private static void keyAsksItself() {
        DUE.sentence("Terms: a key asks another one (or itself)");
        CycleRows x = Given.keys(1);
        DUE.is("edge(0, 0)", x.edge(0, 0, 0, ALL), 0);
        DUE.is("run", x.run(0), 1);
        DUE.is("state(0)", x.state(0), 2);
        DUE.is("ask(0)", x.ask(0), 1);
    }

    private static void placeIsAnyInt() {
        DUE.sentence("Terms: at a PLACE (any int)");
        int[] places = {MIN, -2, -1, 0, 1, 255, 256, 65536, MAX};
        for (int place : places) {
            CycleRows x = Given.keys(1);
            DUE.is("edge at " + place, x.edge(0, 0, place, ALL), 0);
            x.run(0);
            DUE.is("place " + place, x.ring(0, 0, 1), place);
            DUE.is("edge at place " + place, x.ring(0, 0, 2), 0);
        }
    }

    private static void configurationsAreBits0To7() {
        DUE.sentence("Terms: in CONFIGURATIONS (bits 0 .. 7");
        for (int bit = 0; bit < 8; bit++) {
            CycleRows x = Given.keys(1);
            x.edge(0, 0, 0, 1 << bit);
            for (int c = 0; c < 8; c++) {
                DUE.is("bit " + bit + ": run(" + c + ")", x.run(c), c == bit ? 1 : 0);
                DUE.is("bit " + bit + ": ask in " + c, x.ask(0), c == bit ? 1 : 0);
            }
        }
    }

    private static void otherBitsMeanNothing() {
        DUE.sentence("Terms: CONFIGURATIONS (.. others mean nothing)");
        for (int bit = 8; bit < 32; bit++) {
            CycleRows x = Given.keys(2);
            x.edge(0, 0, 0, 1 << bit);
            x.edge(1, 1, 0, 1 << bit | 1 << 7);
            for (int c = 0; c < 7; c++) {
                DUE.is("bit " + bit + ": run(" + c + ")", x.run(c), 0);
                DUE.is("bit " + bit + ": ask in " + c, x.ask(0), 0);
            }
            DUE.is("bit " + bit + ": run(7)", x.run(7), 1);
            DUE.is("bit " + bit + ": only in 7", x.only(0), 7);
            DUE.is("bit " + bit + ": ask in 7", x.ask(0), 0);
        }
        CycleRows x = Given.keys(1);
        x.edge(0, 0, 0, MIN);
        x.edge(0, 0, 0, ~ALL);
        DUE.is("all others together: run(0)", x.run(0), 0);
        DUE.is("all others together: run(7)", x.run(7), 0);
        x.edge(0, 0, 0, -1);
        DUE.is("all bits: run(0)", x.run(0), 1);
        DUE.is("all bits: run(7)", x.run(7), 1);
    }

    private static void edgeWithoutConfigurations() {
        DUE.sentence("Terms: In a CONFIGURATION there are the EDGES that have it");
        CycleRows x = Given.keys(1);
        DUE.is("an edge in none", x.edge(0, 0, 0, 0), 0);
        for (int c = 0; c < 8; c++) {
            DUE.is("run(" + c + ")", x.run(c), 0);
            DUE.is("ask in " + c, x.ask(0), 0);
        }
        DUE.is("it is an edge", x.cut(0), true);
    }

    private static void edgeHasGone() {
        DUE.sentence("Terms: In a CONFIGURATION there are the EDGES that .. haven't gone");
        CycleRows x = Given.keys(2);
        x.edge(0, 1, MIN, ALL);
        x.edge(0, 1, 5, 1);
        x.edge(1, 0, 0, ALL);
        x.edge(1, 1, 0, ALL);
        x.cut(0);
        x.remove(1, 1);
        DUE.is("run(0)", x.run(0), 1);
        DUE.ringIs("the ring of those left", x, 0, 0, 1);
        DUE.is("the edge left", x.ring(0, 0, 2), 1);
        DUE.is("only by those left", x.only(0), 0);
        DUE.is("least by those left", x.least(1), 2);
        DUE.is("ask by those left", x.ask(1), 2);
        DUE.is("run(1)", x.run(1), 0);
        DUE.is("state in 1", x.state(1), 0);
    }

    private static void orderOfNamesHasNoWrap() {
        DUE.sentence("Terms: KEYS are in the order of their NAMES (without a wrap-around)");
        int[] names = {MAX, 1, MIN, -1, 0, MAX - 1, MIN + 1};
        int[] places = {6, 4, 0, 2, 3, 5, 1};
        CycleRows x = Given.named(names);
        x.run(0);
        for (int key = 0; key < names.length; key++) {
            DUE.is("strong of the name " + names[key], x.strong(key), places[key]);
        }
        x = Given.named(MAX, MIN);
        Given.edges(x, 0, 1, 1, 0);
        x.run(0);
        DUE.ringIs("MIN before MAX", x, 0, 1, 0);
    }

    private static void orderOfNamesNotOfNumbers() {
        DUE.sentence("Terms: KEYS are in the order of their NAMES (40 keys, the last first)");
        CycleRows x = new CycleRows();
        for (int key = 0; key < 40; key++) {
            x.key(-key);
        }
        x.run(0);
        for (int key = 0; key < 40; key++) {
            DUE.is("strong(" + key + ")", x.strong(key), 39 - key);
        }
    }

    private static void orderOfNamesHoweverTheyCome() {
        DUE.sentence("Terms: KEYS are in the order of their NAMES (however they come)");
        for (int n = 0; n < 256; n++) {
            int[] names = {n & 3, n >> 2 & 3, n >> 4 & 3, n >> 6};
            CycleRows x = Given.named(names);
            if (x.edge(3, 3, 0, ALL) == NONE) {
                continue; // two of the names are the same
            }
            x.run(0);
            for (int key = 0; key < 4; key++) {
                DUE.is("strong of the name " + names[key], x.strong(key), names[key]);
                DUE.is("state of the name " + names[key], x.state(key), key == 3 ? 2 : 0);
            }
        }
    }

    private static void smallestRing() {
        DUE.sentence("Terms: A RING is a row of different KEYS (one)");
        CycleRows x = Given.keys(3);
        Given.edges(x, 0, 1, 2, 1, 1, 1);
        DUE.is("run", x.run(0), 1);
        DUE.ringIs("one key", x, 0, 1);
        DUE.is("least of it", x.least(1), 1);
        DUE.is("least beside it", x.least(0), 0);
    }

    private static void largestRing() {
        DUE.sentence("Terms: A RING is a row of different KEYS .. (all 40)");
        CycleRows x = Given.keys(40);
        Given.chain(x, 0, 39);
        x.edge(39, 0, 0, ALL);
        DUE.is("run", x.run(0), 1);
        DUE.is("size", x.size(0), 40);
        for (int key = 0; key < 40; key++) {
            DUE.is("ring at " + key, x.ring(0, key, 0), key);
            DUE.is("edge at " + key, x.ring(0, key, 2), key);
            DUE.is("least(" + key + ")", x.least(key), 40);
        }
        DUE.is("ring at 40", x.ring(0, 40, 0), NONE);
    }

    private static void rowThatDoesNotClose() {
        DUE.sentence("Terms: A RING .. each of which asks the next one, the last one the first");
        CycleRows x = Given.keys(40);
        Given.chain(x, 0, 39);
        DUE.is("a chain of 40", x.run(0), 0);
        DUE.is("ask its first", x.ask(0), 0);
        for (int key = 0; key < 40; key++) {
            DUE.is("strong(" + key + ")", x.strong(key), key);
            DUE.is("least(" + key + ")", x.least(key), 0);
        }
        x = Given.keys(3);
        Given.edges(x, 0, 1, 0, 2, 1, 2);
        DUE.is("two ways to one key", x.run(0), 0);
    }

    private static void partOfOneAlone() {
        DUE.sentence("Terms: A STRONG PART (one alone, too)");
        CycleRows x = Given.keys(3);
        Given.edges(x, 0, 1, 1, 1);
        DUE.is("run", x.run(0), 1);
        DUE.is("alone, asking", x.strong(0), 0);
        DUE.is("alone, with a ring", x.strong(1), 1);
        DUE.is("alone, without edges", x.strong(2), 2);
    }

    private static void partOfAll() {
        DUE.sentence("Terms: A STRONG PART: each reaches each other one");
        CycleRows x = Given.keys(40);
        Given.chain(x, 0, 39);
        x.edge(39, 0, 0, ALL);
        x.run(0);
        for (int key = 0; key < 40; key++) {
            DUE.is("all 40: strong(" + key + ")", x.strong(key), 0);
        }
        x.cut(19);
        x.edge(19, 0, 0, ALL);
        x.run(0);
        for (int key = 0; key < 40; key++) {
            DUE.is("behind the part: strong(" + key + ")", x.strong(key), key < 20 ? 0 : key - 19);
        }
    }

    private static void partsInOrderOfFirstKeys() {
        DUE.sentence("Terms: STRONG PARTS are numbered from 0 in the order of their first KEYS");
        CycleRows x = Given.named(50, 40, 30, 20, 10);
        Given.edges(x, 0, 4, 4, 0, 1, 3, 3, 1);
        x.run(0);
        int[] parts = {0, 1, 2, 1, 0};
        for (int key = 0; key < 5; key++) {
            DUE.is("strong(" + key + ")", x.strong(key), parts[key]);
        }
    }

    private static void ringsOfPartsThatHaveOne() {
        DUE.sentence("Terms: TOLD are RINGS .. of each STRONG PART that has one, in their order");
        CycleRows x = Given.named(50, 40, 30, 20, 10);
        Given.edges(x, 0, 0, 1, 2, 2, 1, 4, 3);
        DUE.is("run", x.run(0), 2);
        DUE.ringIs("the first told", x, 0, 2, 1);
        DUE.ringIs("the second told", x, 1, 0);
        DUE.is("no third", x.size(2), 0);
        DUE.is("the part of the first", x.strong(1), 2);
        DUE.is("the part of the second", x.strong(0), 3);
    }

    private static void mostRings() {
        DUE.sentence("Terms: TOLD are RINGS .. of each STRONG PART (all 40 have one)");
        CycleRows x = Given.keys(40);
        for (int key = 39; key >= 0; key--) {
            x.edge(key, key, 0, ALL);
        }
        Given.chain(x, 0, 39);
        DUE.is("run", x.run(0), 40);
        for (int i = 0; i < 40; i++) {
            DUE.is("ring(" + i + ", 0, 0)", x.ring(i, 0, 0), i);
            DUE.is("ring(" + i + ", 0, 2)", x.ring(i, 0, 2), 39 - i);
            DUE.is("ring(" + i + ", 1, 0)", x.ring(i, 1, 0), NONE);
        }
        DUE.is("size(40)", x.size(40), 0);
    }

    private static void fewestKeysFirst() {
        DUE.sentence("Terms: its LEAST: of those with the fewest KEYS (39 before 40)");
        CycleRows x = Given.keys(40);
        Given.chain(x, 0, 39);
        x.edge(39, 0, 0, ALL);
        x.edge(39, 1, 0, ALL);
        DUE.is("run", x.run(0), 1);
        DUE.is("size", x.size(0), 39);
        DUE.is("it begins with", x.ring(0, 0, 0), 1);
        DUE.is("it ends with", x.ring(0, 38, 0), 39);
        DUE.is("least of a key beside it", x.least(0), 40);
    }

    private static void fewestKeysByOneOfMany() {
        DUE.sentence("Terms: its LEAST: of those with the fewest KEYS (one before two)");
        CycleRows x = Given.keys(3);
        Given.edges(x, 0, 1, 1, 0, 1, 2, 2, 1, 2, 2);
        DUE.is("run", x.run(0), 1);
        DUE.ringIs("the last key alone", x, 0, 2);
        DUE.is("its edge", x.ring(0, 0, 2), 4);
    }

    private static void fewestKeysBesideTheFirst() {
        DUE.sentence("Terms: its LEAST: of those with the fewest KEYS (not by the first of all)");
        CycleRows x = Given.keys(4);
        Given.edges(x, 1, 0, 1, 2, 2, 1);
        DUE.is("run", x.run(0), 1);
        DUE.ringIs("it asks the first of all, in no ring", x, 0, 1, 2);
        Given.edges(x, 0, 3, 3, 1);
        DUE.is("run again", x.run(0), 1);
        DUE.ringIs("it asks the first of all, in a longer ring", x, 0, 1, 2);
    }

    private static void ringBeginsWithItsFirstKey() {
        DUE.sentence("Terms: each beginning with its first KEY (in the order of NAMES)");
        CycleRows x = Given.named(3, 1, 2);
        Given.edges(x, 0, 1, 1, 2, 2, 0);
        x.run(0);
        DUE.ringIs("from the name 1", x, 0, 1, 2, 0);
        x = Given.named(3, 2, 1);
        Given.edges(x, 0, 1, 1, 2, 2, 0);
        x.run(0);
        DUE.ringIs("from the last key", x, 0, 2, 0, 1);
    }

    private static void keysOneByOne() {
        DUE.sentence("Terms: the one whose KEYS, one by one, come first in that order");
        CycleRows x = Given.keys(5);
        Given.edges(x, 3, 4, 4, 3, 1, 2, 2, 1, 2, 3, 3, 2, 0, 1, 4, 0);
        x.run(0);
        DUE.ringIs("the first key decides", x, 0, 1, 2);
        x = Given.keys(5);
        Given.edges(x, 0, 4, 4, 1, 1, 0, 0, 2, 2, 3, 3, 0);
        x.run(0);
        DUE.ringIs("the second key decides", x, 0, 0, 2, 3);
        x = Given.keys(6);
        Given.edges(x, 0, 1, 1, 2, 2, 5, 5, 0, 2, 4, 4, 0, 2, 3, 3, 0);
        x.run(0);
        DUE.ringIs("the last key decides", x, 0, 0, 1, 2, 3);
        x = Given.named(10, 40, 30, 20);
        Given.edges(x, 0, 1, 1, 0, 0, 2, 2, 0, 0, 3, 3, 0);
        x.run(0);
        DUE.ringIs("by names, not by numbers", x, 0, 0, 3);
    }

    private static void leastPlaceHasNoWrap() {
        DUE.sentence("Terms: from each KEY to the next the one with the least PLACE");
        int[] places = {MAX, MAX - 1, 1, 0, -1, MIN + 1, MIN};
        CycleRows x = Given.keys(1);
        for (int n = 0; n < places.length; n++) {
            x.edge(0, 0, places[n], ALL);
            x.run(0);
            DUE.is("least until " + places[n], x.ring(0, 0, 1), places[n]);
            DUE.is("its edge", x.ring(0, 0, 2), n);
        }
        x.edge(0, 0, MAX, ALL);
        x.run(0);
        DUE.is("MAX behind MIN", x.ring(0, 0, 2), places.length - 1);
    }

    private static void likePlacesFirstThatCame() {
        DUE.sentence("Terms: of like ones the first that came");
        int[] places = {MIN, -1, 0, MAX};
        for (int place : places) {
            CycleRows x = Given.keys(1);
            x.edge(0, 0, place, ALL);
            x.edge(0, 0, place, ALL);
            x.edge(0, 0, place, ALL);
            x.run(0);
            DUE.is("three at " + place, x.ring(0, 0, 2), 0);
            x.cut(0);
            x.run(0);
            DUE.is("two at " + place, x.ring(0, 0, 2), 1);
        }
    }

    private static void waitsFarAway() {
        DUE.sentence("Terms: it WAITS if it isn't and reaches one that is (39 edges away)");
        CycleRows x = Given.keys(40);
        Given.chain(x, 0, 39);
        x.edge(39, 39, 0, 1);
        x.run(0);
        for (int key = 0; key < 39; key++) {
            DUE.is("state(" + key + ")", x.state(key), 1);
        }
        DUE.is("state(39)", x.state(39), 2);
        x.run(1);
        DUE.is("state(0) without the ring", x.state(0), 0);
        DUE.is("state(39) without the ring", x.state(39), 0);
    }

    private static void waitsForTheFirstOrTheLast() {
        DUE.sentence("Terms: it WAITS if it isn't and reaches one that is (the first, the last)");
        CycleRows x = Given.keys(40);
        Given.edges(x, 0, 0, 20, 0);
        x.run(0);
        DUE.is("for the first: state(20)", x.state(20), 1);
        DUE.is("beside it: state(21)", x.state(21), 0);
        x.remove(0, 0);
        Given.edges(x, 39, 39, 20, 39);
        x.run(0);
        DUE.is("for the last: state(20)", x.state(20), 1);
        DUE.is("for none: state(0)", x.state(0), 0);
    }

    private static void ringedKeyDoesNotWait() {
        DUE.sentence("Terms: A KEY is RINGED if its STRONG PART has a RING; it WAITS if it isn't");
        CycleRows x = Given.keys(4);
        Given.edges(x, 0, 0, 0, 1, 1, 2, 2, 1, 2, 3, 3, 2, 3, 3);
        x.run(0);
        DUE.is("ringed, reaching another ring", x.state(0), 2);
        DUE.is("in its part's ring or not", x.state(1), 2);
        DUE.is("in its part's ring or not", x.state(2), 2);
        DUE.is("the ring told", x.state(3), 2);
    }

    private static void valueWithoutEdgesAndBehindARing() {
        DUE.sentence("Terms: else it has a VALUE");
        CycleRows x = Given.keys(4);
        Given.edges(x, 0, 0, 0, 1, 1, 2);
        x.run(0);
        DUE.is("behind a ring", x.state(1), 0);
        DUE.is("behind that", x.state(2), 0);
        DUE.is("without edges", x.state(3), 0);
    }

    private static void objectIsUsedFor512Calls() {
        DUE.sentence("What it is: An object is used for at most 512 calls after it has been made");
        for (int last = 0; last < 14; last++) {
            CycleRows x = Given.keys(2);
            Given.edges(x, 0, 1, 1, 0);
            // Two keys and two edges, a run and an ask: with 505 runs more the next is the 512th.
            x.run(0);
            x.ask(1);
            for (int n = 0; n < 505; n++) {
                x.run(n % 8);
            }
            DUE.is("the 512th call, " + last, lastCall(x, last), LAST_ANSWERS[last]);
        }
    }

    private static final int[] LAST_ANSWERS = {2, 2, 1, 1, 1, 2, 1, NONE, 1, 0, 2, 2, 2, 1};

    private static int lastCall(CycleRows x, int which) {
        switch (which) {
            case 0: return x.key(5);
            case 1: return x.edge(0, 0, 0, 0);
            case 2: return x.remove(0, 1);
            case 3: return x.cut(1) ? 1 : 0;
            case 4: return x.run(7);
            case 5: return x.size(0);
            case 6: return x.ring(0, 1, 0);
            case 7: return x.only(0);
            case 8: return x.newest(0);
            case 9: return x.strong(1);
            case 10: return x.state(0);
            case 11: return x.least(1);
            case 12: return x.ask(0);
            default: return x.met(0);
        }
    }
}
