/** All promises: long runs of calls, right and wrong ones mixed, each compared with the model's answer. */
public final class ModelTest {
    private static final int OBJECTS = 160;
    private static final int CALLS = 512;
    private static final int SMALL_GRAPH = 9;

    /** The calls by the numbers of their promises. Each is told with four arguments, of which it takes the first. */
    private static final String[] NAMES = {"", "", "make", "edge", "limit", "weigh", "count", "rank", "free",
        "circuit", "closure", "most", "dearest", "weight", "heaviest", "witness", "check"};

    private static final Due DUE = new Due("ModelTest");
    private static long seed = 20261119;

    private final int edgesWanted;
    private final int weightSpan;
    /** One call of so many is a change. */
    private final int changeEvery;
    private final ColourForests program = new ColourForests();
    private final Model model = new Model();
    private String call;

    private ModelTest(int object) {
        edgesWanted = object % 8 == 0 ? 14 : below(SMALL_GRAPH + 1);
        weightSpan = object % 3 == 0 ? 9999 : 1 + below(4);
        changeEvery = object % 4 == 1 ? 2 : 40;
    }

    public static void main(String[] args) {
        for (int object = 0; object < OBJECTS; object++) {
            new ModelTest(object).run();
        }
        DUE.end();
    }

    private void run() {
        for (int calls = build(); calls < CALLS; calls++) {
            if (below(changeEvery) == 0) {
                change();
            } else {
                ask(6 + below(11));
            }
        }
    }

    private int build() {
        same(2, 1 + below(8), 1 + below(6), 0, 0);
        int calls = 1;
        for (int n = 0; n < edgesWanted; n++) {
            same(3, below(model.count(0)), below(model.count(0)), below(model.count(1)), anyWeight());
            calls++;
        }
        for (int colour = 0; colour < model.count(1); colour++) {
            if (below(2) == 0) {
                same(4, colour, below(5), 0, 0);
                calls++;
            }
        }
        return calls;
    }

    private void change() {
        int what = below(12);
        if (what == 0) {
            same(2, below(10), below(8), 0, 0);
        } else if (what < 4) {
            same(3, near(model.count(0)), near(model.count(0)), near(model.count(1)), anyOrWrongWeight());
        } else if (what < 8) {
            same(4, near(model.count(1)), below(18) - 1, 0, 0);
        } else {
            same(5, near(model.count(2)), anyOrWrongWeight(), 0, 0);
        }
    }

    private void ask(int what) {
        switch (what) {
            case 6:
                same(6, below(7) - 1, 0, 0, 0);
                break;
            case 9:
                same(9, below(10) == 0 ? below(5) - 1 : below(2), anySet(), near(model.count(2)), 0);
                break;
            case 7:
            case 8:
            case 10:
                same(what, below(10) == 0 ? below(5) - 1 : below(3), anySet(), 0, 0);
                break;
            case 15:
                same(15, below(4) - 1, 0, 0, 0);
                break;
            default:
                same(what, below(10) - 1, 0, 0, 0);
                break;
        }
    }

    private void same(int what, int a, int b, int c, int d) {
        long[] got = new long[1];
        long[] want = new long[1];
        String wantThrown = Due.thrownBy(() -> want[0] = modelAnswer(what, a, b, c, d));
        String told = call + " in graph of " + model.count(2) + " edges";
        DUE.thrown(told, wantThrown, () -> got[0] = programAnswer(what, a, b, c, d));
        DUE.answer(told, got[0], want[0]);
    }

    private long modelAnswer(int what, int a, int b, int c, int d) {
        call = NAMES[what] + "(" + a + ", " + b + ", " + c + ", " + d + ")";
        switch (what) {
            case 2:
                model.make(a, b);
                return 0;
            case 3:
                return model.edge(a, b, c, d);
            case 4:
                model.limit(a, b);
                return 0;
            case 5:
                model.weigh(a, b);
                return 0;
            case 6:
                return model.count(a);
            case 7:
                return model.rank(a, b);
            case 8:
                return model.free(a, b);
            case 9:
                return model.circuit(a, b, c);
            case 10:
                return model.closure(a, b);
            case 11:
                return model.most();
            case 12:
                return model.dearest(a);
            case 13:
                return model.weight(a);
            case 14:
                return model.heaviest();
            case 15:
                return model.witness(a);
            default:
                return model.check();
        }
    }

    private long programAnswer(int what, int a, int b, int c, int d) {
        switch (what) {
            case 2:
                program.make(a, b);
                return 0;
            case 3:
                return program.edge(a, b, c, d);
            case 4:
                program.limit(a, b);
                return 0;
            case 5:
                program.weigh(a, b);
                return 0;
            case 6:
                return program.count(a);
            case 7:
                return program.rank(a, b);
            case 8:
                return program.free(a, b);
            case 9:
                return program.circuit(a, b, c);
            case 10:
                return program.closure(a, b);
            case 11:
                return program.most();
            case 12:
                return program.dearest(a);
            case 13:
                return program.weight(a);
            case 14:
                return program.heaviest();
            case 15:
                return program.witness(a);
            default:
                return program.check();
        }
    }

    private int anyWeight() {
        return below(2 * weightSpan + 1) - weightSpan;
    }

    private int anyOrWrongWeight() {
        return below(10) == 0 ? 20000 * below(2) - 10000 : anyWeight();
    }

    /** Mostly a set of edges that there are, thin and thick ones; now and then one with what is no edge. */
    private int anySet() {
        int all = (1 << model.count(2)) - 1;
        int set = below(1 << 14) & all;
        int dice = below(20);
        if (dice == 0) {
            return set | 1 << below(32);
        }
        if (dice == 1) {
            return all;
        }
        return dice < 10 ? set & below(1 << 14) : set;
    }

    /** A number from 0 to n - 1, or now and then -1 or n. */
    private int near(int n) {
        return below(10) == 0 ? below(2) * (n + 1) - 1 : below(Math.max(n, 1));
    }

    /** The same numbers on every machine and in every run. */
    private static int below(int bound) {
        seed = seed * 6364136223846793005L + 1442695040888963407L;
        return (int) ((seed >>> 33) % bound);
    }
}
