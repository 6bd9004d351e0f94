/** Promises 7 to 10: ranks, free sets, circuits and closures. */
public final class SetsTest {
    private static final Due DUE = new Due("SetsTest");
    private static final int[] NO_SETS = {-1, 1 << 7, 1 << 14, 128 + 5, Integer.MIN_VALUE, Integer.MAX_VALUE};
    private static final int[] NO_KINDS = {-1, 3, 9, Integer.MIN_VALUE, Integer.MAX_VALUE};

    public static void main(String[] args) {
        promise7Rank();
        promise7RankRefuses();
        promise8Free();
        promise8FreeRefuses();
        promise9CircuitByRings();
        promise9CircuitByColours();
        promise9CircuitRefuses();
        promise10Closure();
        promise10ClosureRefuses();
        DUE.end();
    }

    /** A ring of four (edges 0 to 3), a way across (4), an edge beside edge 0 (5) and a loop (6). */
    private static ColourForests square() {
        ColourForests x = new ColourForests();
        x.make(5, 3);
        x.edge(0, 1, 0, 1);
        x.edge(1, 2, 0, 2);
        x.edge(2, 3, 1, 3);
        x.edge(3, 0, 1, 4);
        x.edge(0, 2, 2, 5);
        x.edge(1, 0, 0, 6);
        x.edge(3, 3, 1, 7);
        x.limit(0, 2);
        x.limit(2, 0);
        return x;
    }

    private static void promise7Rank() {
        ColourForests x = square();
        int[][] ringless = {{0, 0}, {1, 1}, {15, 3}, {127, 3}, {33, 1}, {64, 0}, {96, 1}, {19, 2}, {28, 2}};
        for (int[] r : ringless) {
            DUE.answer("rank(0, " + r[0] + ")", x.rank(0, r[0]), r[1]);
        }
        int[][] limited = {{0, 0}, {1, 1}, {3, 2}, {35, 2}, {4, 1}, {12, 1}, {76, 1}, {16, 0}, {15, 3}, {127, 3}};
        for (int[] r : limited) {
            DUE.answer("rank(1, " + r[0] + ")", x.rank(1, r[0]), r[1]);
        }
    }

    private static void promise7RankRefuses() {
        ColourForests x = square();
        for (int kind : NO_KINDS) {
            DUE.answer("rank of kind " + kind, x.rank(kind, 0), -1);
        }
        DUE.answer("rank of kind 2", x.rank(2, 0), -1);
        for (int set : NO_SETS) {
            DUE.answer("rank(0, " + set + ")", x.rank(0, set), -1);
            DUE.answer("rank(1, " + set + ")", x.rank(1, set), -1);
        }
    }

    private static void promise8Free() {
        ColourForests x = square();
        free(x, 0, 1, 1, 1);
        free(x, 7, 1, 1, 1);
        free(x, 15, 0, 0, 0);
        free(x, 13, 1, 0, 0);
        free(x, 33, 0, 1, 0);
        free(x, 35, 0, 0, 0);
        free(x, 64, 0, 1, 0);
        free(x, 16, 1, 0, 0);
        free(x, 127, 0, 0, 0);
    }

    private static void free(ColourForests x, int set, int ringless, int limited, int common) {
        DUE.answer("free(0, " + set + ")", x.free(0, set), ringless);
        DUE.answer("free(1, " + set + ")", x.free(1, set), limited);
        DUE.answer("free(2, " + set + ")", x.free(2, set), common);
    }

    private static void promise8FreeRefuses() {
        ColourForests x = square();
        for (int kind : NO_KINDS) {
            DUE.answer("free of kind " + kind, x.free(kind, 0), -1);
        }
        for (int set : NO_SETS) {
            for (int kind = 0; kind <= 2; kind++) {
                DUE.answer("free(" + kind + ", " + set + ")", x.free(kind, set), -1);
            }
        }
    }

    private static void promise9CircuitByRings() {
        ColourForests x = square();
        DUE.answer("the whole ring", x.circuit(0, 7, 3), 15);
        DUE.answer("a part of the set", x.circuit(0, 7, 4), 19);
        DUE.answer("two of the same ends", x.circuit(0, 7, 5), 33);
        DUE.answer("the loop alone", x.circuit(0, 7, 6), 64);
        DUE.answer("the loop and nothing", x.circuit(0, 0, 6), 64);
        DUE.answer("free together", x.circuit(0, 3, 2), 0);
        DUE.answer("free with nothing", x.circuit(0, 0, 0), 0);
        DUE.answer("colours are nothing to rings", x.circuit(0, 13, 5), 33);
    }

    private static void promise9CircuitByColours() {
        ColourForests x = square();
        DUE.answer("all of the colour", x.circuit(1, 7, 5), 35);
        DUE.answer("one of each colour", x.circuit(1, 7, 3), 12);
        DUE.answer("no limit left", x.circuit(1, 7, 4), 16);
        DUE.answer("free together", x.circuit(1, 1, 5), 0);
        DUE.answer("rings are nothing to colours", x.circuit(1, 0, 6), 0);
    }

    private static void promise9CircuitRefuses() {
        ColourForests x = square();
        for (int kind : NO_KINDS) {
            DUE.answer("circuit of kind " + kind, x.circuit(kind, 0, 0), -1);
        }
        DUE.answer("circuit of kind 2", x.circuit(2, 0, 0), -1);
        for (int set : NO_SETS) {
            DUE.answer("circuit(0, " + set + ", 1)", x.circuit(0, set, 1), -1);
            DUE.answer("circuit(1, " + set + ", 1)", x.circuit(1, set, 1), -1);
        }
        int[] noEdges = {-1, 7, 14, 32, 39, Integer.MIN_VALUE, Integer.MAX_VALUE};
        for (int edge : noEdges) {
            DUE.answer("circuit(0, 0, " + edge + ")", x.circuit(0, 0, edge), -1);
            DUE.answer("circuit(1, 0, " + edge + ")", x.circuit(1, 0, edge), -1);
        }
        DUE.answer("a set with a ring", x.circuit(0, 33, 3), -1);
        DUE.answer("a set of too many", x.circuit(1, 35, 3), -1);
        DUE.answer("a set that has the edge, by rings", x.circuit(0, 7, 2), -1);
        DUE.answer("a set that has the edge, by colours", x.circuit(1, 7, 2), -1);
    }

    private static void promise10Closure() {
        ColourForests x = square();
        int[][] ringless = {{0, 64}, {1, 97}, {3, 115}, {7, 127}, {16, 80}, {127, 127}, {12, 92}};
        for (int[] r : ringless) {
            DUE.answer("closure(0, " + r[0] + ")", x.closure(0, r[0]), r[1]);
        }
        int[][] limited = {{0, 16}, {1, 17}, {3, 51}, {4, 92}, {35, 51}, {7, 127}, {127, 127}, {16, 16}};
        for (int[] r : limited) {
            DUE.answer("closure(1, " + r[0] + ")", x.closure(1, r[0]), r[1]);
        }
    }

    private static void promise10ClosureRefuses() {
        ColourForests x = square();
        for (int kind : NO_KINDS) {
            DUE.answer("closure of kind " + kind, x.closure(kind, 0), -1);
        }
        DUE.answer("closure of kind 2", x.closure(2, 0), -1);
        for (int set : NO_SETS) {
            DUE.answer("closure(0, " + set + ")", x.closure(0, set), -1);
            DUE.answer("closure(1, " + set + ")", x.closure(1, set), -1);
        }
    }
}
