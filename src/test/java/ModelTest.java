import java.util.Random;

/** Long runs of calls, each answer compared with the model's; the seeds are fixed. */
public final class ModelTest {
    private static final int CALLS = 512;
    private static final int[] ODD = {Integer.MIN_VALUE, -2, -1, 8, 40, 160, Integer.MAX_VALUE};

    private final Due due;
    private final Random random;
    private final int keys;
    private final int nextSteps;
    private final boolean fewBits;
    private final String run;
    private final CycleRows x = new CycleRows();
    private final Model model = new Model();
    private int calls = 0;
    private int made = 0;

    private ModelTest(Due due, int seed, int keys, int nextSteps) {
        this.due = due;
        this.random = new Random(seed);
        this.keys = keys;
        this.nextSteps = nextSteps;
        this.fewBits = random.nextBoolean();
        this.run = "seed " + seed + " with " + keys + " keys, call ";
    }

    public static void main(String[] args) {
        Due due = new Due("ModelTest");
        int[] keys = {1, 2, 3, 4, 5, 7, 12, 20, 40, 45};
        for (int seed = 0; seed < 600; seed++) {
            int count = keys[seed % keys.length];
            // Edges to near keys alone make long rings, edges to any key short ones.
            new ModelTest(due, seed, count, seed / keys.length % 3 == 0 ? 2 : count).play();
        }
        due.end();
    }

    private void play() {
        boolean allAtOnce = random.nextBoolean();
        for (int n = 0; allAtOnce && n < keys; n++) {
            makeKey();
        }
        while (calls < CALLS) {
            step();
        }
    }

    private void is(String call, long got, long want) {
        calls++;
        due.is(run + calls + ": " + call, got, want);
    }

    private void step() {
        int dice = random.nextInt(100);
        if (dice < 8) {
            makeKey();
        } else if (dice < 50) {
            makeEdge();
        } else if (dice < 54) {
            int from = anyKey();
            int to = near(from);
            is("remove(" + from + ", " + to + ")", x.remove(from, to), model.remove(from, to));
        } else if (dice < 60) {
            int edge = random.nextInt(10) == 0 ? odd() : random.nextInt(made + 1);
            is("cut(" + edge + ")", x.cut(edge) ? 1 : 0, model.cut(edge) ? 1 : 0);
        } else if (dice < 66) {
            int c = random.nextInt(12) == 0 ? odd() : random.nextInt(8);
            is("run(" + c + ")", x.run(c), model.run(c));
            lookAtRing(random.nextInt(3));
        } else if (dice < 72) {
            int key = anyKey();
            is("ask(" + key + ")", x.ask(key), model.ask(key));
        } else {
            look();
        }
    }

    private void makeKey() {
        int name = random.nextInt(6) == 0 ? odd() : random.nextInt(4 * keys) - 2 * keys;
        if (made == 0 || random.nextInt(3) > 0) {
            is("key(" + name + ")", x.key(name), model.key(name));
        }
    }

    private void makeEdge() {
        int from = anyKey();
        int to = near(from);
        int place = random.nextInt(8) == 0 ? odd() : random.nextInt(4);
        int bits = anyBits();
        int number = x.edge(from, to, place, bits);
        is("edge(" + from + ", " + to + ", " + place + ", " + bits + ")", number,
                model.edge(from, to, place, bits));
        made = Math.max(made, number + 1);
    }

    /** Few configurations an edge make rings that only one has, many make more rings. */
    private int anyBits() {
        int bits = fewBits ? random.nextInt() & random.nextInt() : random.nextInt();
        return fewBits ? bits & random.nextInt() | 1 << random.nextInt(2) : bits | random.nextInt();
    }

    private void lookAtRing(int i) {
        for (int k = 0; k < 6; k++) {
            is("ring(" + i + ", " + k + ", 0)", x.ring(i, k, 0), model.ring(i, k, 0));
        }
    }

    private void look() {
        int i = random.nextInt(12) == 0 ? odd() : random.nextInt(random.nextInt(3) + 1);
        int k = random.nextInt(12) == 0 ? odd() : random.nextInt(random.nextInt(keys) + 1);
        int what = random.nextInt(12) == 0 ? odd() : random.nextInt(3);
        int key = anyKey();
        switch (random.nextInt(8)) {
            case 0 -> is("size(" + i + ")", x.size(i), model.size(i));
            case 1 -> is("ring(" + i + ", " + k + ", " + what + ")",
                    x.ring(i, k, what), model.ring(i, k, what));
            case 2 -> is("only(" + i + ")", x.only(i), model.only(i));
            case 3 -> is("newest(" + i + ")", x.newest(i), model.newest(i));
            case 4 -> is("strong(" + key + ")", x.strong(key), model.strong(key));
            case 5 -> is("state(" + key + ")", x.state(key), model.state(key));
            case 6 -> is("least(" + key + ")", x.least(key), model.least(key));
            default -> is("met(" + k + ")", x.met(k), model.met(k));
        }
    }

    private int anyKey() {
        return random.nextInt(25) == 0 ? odd() : random.nextInt(keys);
    }

    private int near(int from) {
        int step = 1 + random.nextInt(nextSteps);
        return random.nextInt(25) == 0 ? odd() : Math.floorMod(from + step, keys);
    }

    private int odd() {
        return ODD[random.nextInt(ODD.length)];
    }
}
