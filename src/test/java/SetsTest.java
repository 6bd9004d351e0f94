/**
 * Promises 7 to 10: ranks, free sets, circuits and closures. A sentence that names a boundary stands above
 * its test.
 */
public final class SetsTest {
    private static final Due DUE = new Due("SetsTest");
    private static final int[] NO_KINDS = {-1, 3, 4, 9, Integer.MIN_VALUE, Integer.MAX_VALUE};
    private static final int ONLY_COMMON = 2;

    public static void main(String[] args) {
        promise7Rank();
        promise7RankOfNothingAndOfAll();
        promise7NoSuchKind();
        promise7WhatIsNoEdge();
        promise8Free();
        promise8NoSuchKind();
        promise8WhatIsNoEdge();
        promise9CircuitByRings();
        promise9CircuitByColours();
        promise9FreeTogether();
        promise9NoSuchKind();
        promise9NoSuchEdge();
        promise9WhatIsNoEdge();
        promise9NotFreeByIt();
        promise9HasTheEdge();
        promise10Closure();
        promise10ItselfAndNothingMore();
        promise10AllThatCanCome();
        promise10NoSuchKind();
        promise10WhatIsNoEdge();
        asksChangeNothing();
        DUE.end();
    }

    private static void promise7Rank() {
        ColourForests x = Graphs.square();
        int[][] ringless = {{0, 0}, {1, 1}, {15, 3}, {127, 3}, {33, 1}, {64, 0}, {96, 1}, {19, 2}, {28, 2}};
        for (int[] r : ringless) {
            DUE.answer("rank(0, " + r[0] + ")", x.rank(0, r[0]), r[1]);
        }
        int[][] limited = {{0, 0}, {1, 1}, {3, 2}, {35, 2}, {4, 1}, {12, 1}, {76, 1}, {16, 0}, {15, 3}, {127, 3}};
        for (int[] r : limited) {
            DUE.answer("rank(1, " + r[0] + ")", x.rank(1, r[0]), r[1]);
        }
    }

    /** "how many edges the largest free set within it has": none within, or all there are. */
    private static void promise7RankOfNothingAndOfAll() {
        for (int edges = 0; edges <= 7; edges++) {
            ColourForests x = Graphs.row(edges);
            int all = (1 << edges) - 1;
            DUE.answer("rank of nothing by rings", x.rank(0, 0), 0);
            DUE.answer("rank of nothing by colours", x.rank(1, 0), 0);
            DUE.answer("rank of a row of " + edges, x.rank(0, all), edges);
            DUE.answer("its rank by limit 1", x.rank(1, all), Math.min(1, edges));
            x.limit(0, edges);
            DUE.answer("its rank by limit " + edges, x.rank(1, all), edges);
            x.limit(0, 0);
            DUE.answer("its rank by limit 0", x.rank(1, all), 0);
        }
        DUE.answer("rank of all, loops alone", Graphs.loops(14).rank(0, 16383), 0);
        DUE.answer("rank of all, side by side", Graphs.sideBySide(14).rank(0, 16383), 1);
        DUE.answer("rank of all, limit 14", Graphs.withLimit(Graphs.loops(14), 0, 14).rank(1, 16383), 14);
    }

    /** "NONE when there is no such kind": 2 is no kind that ranks are by. */
    private static void promise7NoSuchKind() {
        ColourForests x = Graphs.square();
        for (int kind : NO_KINDS) {
            DUE.answer("rank(" + kind + ", 0)", x.rank(kind, 0), -1);
            DUE.answer("rank(" + kind + ", 7)", x.rank(kind, 7), -1);
            DUE.answer("rank(" + kind + ", 128)", x.rank(kind, 128), -1);
        }
        DUE.answer("rank(2, 0)", x.rank(ONLY_COMMON, 0), -1);
        DUE.answer("rank(2, 7)", x.rank(ONLY_COMMON, 7), -1);
    }

    /** Sets that have what is no edge of a graph of so many, alone and beside edges. */
    private static int[] setsBeyond(int edges) {
        int all = (1 << edges) - 1;
        return new int[] {1 << edges, 1 << edges | all, 1 << edges | all >> 1, 1 << 14, 1 << 15, 1 << 30, 1 << 31,
            -1, ~all, 1 << 31 | all, Integer.MAX_VALUE};
    }

    /** "NONE when ... the set has what is no edge": with any number of edges, just behind the last and far off. */
    private static void promise7WhatIsNoEdge() {
        for (int edges = 0; edges <= 14; edges++) {
            ColourForests x = Graphs.sideBySide(edges);
            for (int set : setsBeyond(edges)) {
                DUE.answer("rank(0, " + set + ") of " + edges, x.rank(0, set), -1);
                DUE.answer("rank(1, " + set + ") of " + edges, x.rank(1, set), -1);
            }
            int all = (1 << edges) - 1;
            DUE.answer("rank(0, all) of " + edges, x.rank(0, all), Math.min(1, edges));
            DUE.answer("rank(1, all) of " + edges, x.rank(1, all), Math.min(1, edges));
        }
    }

    private static void promise8Free() {
        ColourForests x = Graphs.square();
        free(x, 0, 1, 1, 1);
        free(x, 7, 1, 1, 1);
        free(x, 15, 0, 0, 0);
        free(x, 13, 1, 0, 0);
        free(x, 33, 0, 1, 0);
        free(x, 35, 0, 0, 0);
        free(x, 64, 0, 1, 0);
        free(x, 16, 1, 0, 0);
        free(x, 127, 0, 0, 0);
    }

    private static void free(ColourForests x, int set, int ringless, int limited, int common) {
        DUE.answer("free(0, " + set + ")", x.free(0, set), ringless);
        DUE.answer("free(1, " + set + ")", x.free(1, set), limited);
        DUE.answer("free(2, " + set + ")", x.free(2, set), common);
    }

    /** "(2: common) ... NONE likewise": when there is no such kind. */
    private static void promise8NoSuchKind() {
        ColourForests x = Graphs.square();
        for (int kind : NO_KINDS) {
            DUE.answer("free(" + kind + ", 0)", x.free(kind, 0), -1);
            DUE.answer("free(" + kind + ", 7)", x.free(kind, 7), -1);
            DUE.answer("free(" + kind + ", 127)", x.free(kind, 127), -1);
            DUE.answer("free(" + kind + ", 128)", x.free(kind, 128), -1);
        }
        DUE.answer("free(2, 0)", x.free(ONLY_COMMON, 0), 1);
    }

    /** "NONE likewise": when the set has what is no edge. */
    private static void promise8WhatIsNoEdge() {
        for (int edges = 0; edges <= 14; edges++) {
            ColourForests x = Graphs.sideBySide(edges);
            for (int kind = 0; kind <= 2; kind++) {
                for (int set : setsBeyond(edges)) {
                    DUE.answer("free(" + kind + ", " + set + ") of " + edges, x.free(kind, set), -1);
                }
                DUE.answer("free(" + kind + ", all) of " + edges, x.free(kind, (1 << edges) - 1), edges <= 1 ? 1 : 0);
            }
        }
    }

    private static void promise9CircuitByRings() {
        ColourForests x = Graphs.square();
        DUE.answer("the whole ring", x.circuit(0, 7, 3), 15);
        DUE.answer("a part of the set", x.circuit(0, 7, 4), 19);
        DUE.answer("two of the same ends", x.circuit(0, 7, 5), 33);
        DUE.answer("the loop alone", x.circuit(0, 7, 6), 64);
        DUE.answer("the loop and nothing", x.circuit(0, 0, 6), 64);
        DUE.answer("colours are nothing to rings", x.circuit(0, 13, 5), 33);
        ColourForests ring = Graphs.ring(8);
        DUE.answer("a ring of eight", ring.circuit(0, 127, 7), 255);
    }

    private static void promise9CircuitByColours() {
        ColourForests x = Graphs.square();
        DUE.answer("all of the colour", x.circuit(1, 7, 5), 35);
        DUE.answer("one of each colour", x.circuit(1, 7, 3), 12);
        DUE.answer("no room at all", x.circuit(1, 7, 4), 16);
        DUE.answer("no room at all, and nothing", x.circuit(1, 0, 4), 16);
        DUE.answer("rings are nothing to colours", x.circuit(1, 33, 3), 0);
        ColourForests full = Graphs.withLimit(Graphs.loops(14), 0, 13);
        DUE.answer("all fourteen", full.circuit(1, 8191, 13), 16383);
        DUE.answer("all fourteen, another last", full.circuit(1, 16382, 0), 16383);
    }

    /** "0 when both together are free": just at the limit, and just before a ring closes. */
    private static void promise9FreeTogether() {
        ColourForests x = Graphs.square();
        DUE.answer("a row of three", x.circuit(0, 3, 2), 0);
        DUE.answer("an edge and nothing", x.circuit(0, 0, 0), 0);
        DUE.answer("two at limit 2", x.circuit(1, 1, 5), 0);
        DUE.answer("one at limit 1 and nothing", x.circuit(1, 0, 6), 0);
        DUE.answer("one at limit 1 beside two at limit 2", x.circuit(1, 3, 2), 0);
        DUE.answer("seven of a ring of eight", Graphs.ring(8).circuit(0, 63, 6), 0);
        DUE.answer("fourteen at limit 14", Graphs.withLimit(Graphs.loops(14), 0, 14).circuit(1, 8191, 13), 0);
    }

    /** "NONE when there is no such kind": 2 is no kind that circuits are by. */
    private static void promise9NoSuchKind() {
        ColourForests x = Graphs.square();
        for (int kind : NO_KINDS) {
            DUE.answer("circuit(" + kind + ", 0, 0)", x.circuit(kind, 0, 0), -1);
            DUE.answer("circuit(" + kind + ", 7, 3)", x.circuit(kind, 7, 3), -1);
            DUE.answer("circuit(" + kind + ", 0, 7)", x.circuit(kind, 0, 7), -1);
        }
        DUE.answer("circuit(2, 0, 0)", x.circuit(ONLY_COMMON, 0, 0), -1);
        DUE.answer("circuit(2, 7, 3)", x.circuit(ONLY_COMMON, 7, 3), -1);
    }

    /** "NONE when there is no such ... edge": just behind the last, and where a shift would wrap around. */
    private static void promise9NoSuchEdge() {
        for (int edges = 0; edges <= 14; edges++) {
            ColourForests x = Graphs.sideBySide(edges);
            int[] none = {-1, edges, edges + 1, 14, 15, 31, 32, 33, 64, -32, Integer.MIN_VALUE, Integer.MAX_VALUE};
            for (int edge : none) {
                DUE.answer("circuit(0, 0, " + edge + ") of " + edges, x.circuit(0, 0, edge), -1);
                DUE.answer("circuit(1, 0, " + edge + ") of " + edges, x.circuit(1, 0, edge), -1);
            }
            if (edges > 0) {
                DUE.answer("the last of " + edges, x.circuit(0, 0, edges - 1), 0);
            }
        }
    }

    /** "NONE when ... the set has what is no edge". */
    private static void promise9WhatIsNoEdge() {
        for (int edges = 1; edges <= 14; edges++) {
            ColourForests x = Graphs.sideBySide(edges);
            int[] sets = {1 << edges, 1 << edges | 1, 1 << 14, 1 << 15, 1 << 31, -1, ~1, Integer.MAX_VALUE};
            for (int set : sets) {
                DUE.answer("circuit(0, " + set + ", last) of " + edges, x.circuit(0, set, edges - 1), -1);
                DUE.answer("circuit(1, " + set + ", last) of " + edges, x.circuit(1, set, edges - 1), -1);
                DUE.answer("circuit(0, " + set + ", first) of " + edges, x.circuit(0, set, 0), -1);
                DUE.answer("circuit(1, " + set + ", first) of " + edges, x.circuit(1, set, 0), -1);
            }
        }
    }

    /** "NONE when ... the set ... is not free by it": what it is by the other kind is nothing to that. */
    private static void promise9NotFreeByIt() {
        ColourForests x = Graphs.square();
        DUE.answer("a ring of one", x.circuit(0, 64, 0), -1);
        DUE.answer("a ring of two", x.circuit(0, 33, 2), -1);
        DUE.answer("a ring of four", x.circuit(0, 15, 5), -1);
        DUE.answer("a ring, and an edge that makes another", x.circuit(0, 33, 6), -1);
        DUE.answer("a ring, by colours", x.circuit(1, 33, 2), 0);
        DUE.answer("too many", x.circuit(1, 35, 3), -1);
        DUE.answer("too many, and an edge of that colour", x.circuit(1, 12, 6), -1);
        DUE.answer("one where there is no room", x.circuit(1, 16, 0), -1);
        DUE.answer("one where there is no room, by rings", x.circuit(0, 16, 0), 0);
        DUE.answer("too many, by rings", x.circuit(0, 12, 0), 0);
    }

    /** "NONE when ... the set ... has the edge." */
    private static void promise9HasTheEdge() {
        for (int kind = 0; kind <= 1; kind++) {
            ColourForests x = Graphs.square();
            for (int edge = 0; edge <= 6; edge++) {
                DUE.answer("circuit(" + kind + ") of edge " + edge + " alone", x.circuit(kind, 1 << edge, edge), -1);
                DUE.answer("circuit(" + kind + ") of edge " + edge + " in all", x.circuit(kind, 127, edge), -1);
            }
            for (int edge = 0; edge <= 2; edge++) {
                DUE.answer("circuit(" + kind + ", 7, " + edge + ")", x.circuit(kind, 7, edge), -1);
            }
        }
        DUE.answer("the fourteenth", Graphs.sideBySide(14).circuit(0, 1 << 13, 13), -1);
    }

    private static void promise10Closure() {
        ColourForests x = Graphs.square();
        int[][] ringless = {{0, 64}, {1, 97}, {3, 115}, {7, 127}, {16, 80}, {127, 127}, {12, 92}};
        for (int[] r : ringless) {
            DUE.answer("closure(0, " + r[0] + ")", x.closure(0, r[0]), r[1]);
        }
        int[][] limited = {{0, 16}, {1, 17}, {3, 51}, {4, 92}, {35, 51}, {7, 127}, {127, 127}, {16, 16}};
        for (int[] r : limited) {
            DUE.answer("closure(1, " + r[0] + ")", x.closure(1, r[0]), r[1]);
        }
    }

    /** "with itself": where no other edge can come. */
    private static void promise10ItselfAndNothingMore() {
        DUE.answer("no edges, by rings", new ColourForests().closure(0, 0), 0);
        DUE.answer("no edges, by colours", new ColourForests().closure(1, 0), 0);
        ColourForests row = Graphs.withLimit(Graphs.row(7), 0, 7);
        for (int set = 0; set < 127; set += 3) {
            DUE.answer("a row, by rings", row.closure(0, set), set);
            DUE.answer("a row, by colours", row.closure(1, set), set);
        }
        ColourForests ring = Graphs.ring(8);
        DUE.answer("six of a ring of eight", ring.closure(0, 63), 63);
        ColourForests loops = Graphs.withLimit(Graphs.loops(14), 0, 14);
        DUE.answer("thirteen at limit 14", loops.closure(1, 8191), 8191);
        DUE.answer("a set that is not free", Graphs.sideBySide(2).closure(0, 3), 3);
    }

    /** "All edges that can come to a set without making its rank by a kind greater": to nothing, too. */
    private static void promise10AllThatCanCome() {
        DUE.answer("loops come to nothing", Graphs.loops(14).closure(0, 0), 16383);
        DUE.answer("limit 0: all come to nothing", Graphs.withLimit(Graphs.row(7), 0, 0).closure(1, 0), 127);
        DUE.answer("limit 1: all come to one", Graphs.row(7).closure(1, 64), 127);
        DUE.answer("limit 1: none comes to nothing", Graphs.row(7).closure(1, 0), 0);
        DUE.answer("side by side: all come to one", Graphs.sideBySide(14).closure(0, 1 << 13), 16383);
        DUE.answer("side by side: none comes to nothing", Graphs.sideBySide(14).closure(0, 0), 0);
        DUE.answer("the last of a ring of eight", Graphs.ring(8).closure(0, 127), 255);
        ColourForests loops = Graphs.withLimit(Graphs.loops(14), 0, 13);
        DUE.answer("twelve at limit 13", loops.closure(1, 4095), 4095);
        DUE.answer("thirteen at limit 13", loops.closure(1, 8191), 16383);
        DUE.answer("fourteen at limit 13", loops.closure(1, 16383), 16383);
    }

    /** "NONE when there is no such kind": 2 is no kind that closures are by. */
    private static void promise10NoSuchKind() {
        ColourForests x = Graphs.square();
        for (int kind : NO_KINDS) {
            DUE.answer("closure(" + kind + ", 0)", x.closure(kind, 0), -1);
            DUE.answer("closure(" + kind + ", 7)", x.closure(kind, 7), -1);
            DUE.answer("closure(" + kind + ", 128)", x.closure(kind, 128), -1);
        }
        DUE.answer("closure(2, 0)", x.closure(ONLY_COMMON, 0), -1);
        DUE.answer("closure(2, 7)", x.closure(ONLY_COMMON, 7), -1);
    }

    /** "NONE when ... the set has what is no edge." */
    private static void promise10WhatIsNoEdge() {
        for (int edges = 0; edges <= 14; edges++) {
            ColourForests x = Graphs.sideBySide(edges);
            for (int set : setsBeyond(edges)) {
                DUE.answer("closure(0, " + set + ") of " + edges, x.closure(0, set), -1);
                DUE.answer("closure(1, " + set + ") of " + edges, x.closure(1, set), -1);
            }
            int all = (1 << edges) - 1;
            DUE.answer("closure(0, all) of " + edges, x.closure(0, all), all);
            DUE.answer("closure(1, all) of " + edges, x.closure(1, all), all);
        }
    }

    /** A question is no change, whether it is answered or told NONE. */
    private static void asksChangeNothing() {
        for (int which = 0; which < Graphs.SMALL; which++) {
            int graph = which;
            Twins.stayAlike(DUE, "questions, graph " + which, () -> Graphs.small(graph), SetsTest::askAll);
        }
    }

    private static void askAll(ColourForests x) {
        for (int kind = -1; kind <= 3; kind++) {
            for (int set = -1; set <= 8; set++) {
                x.rank(kind, set);
                x.free(kind, set);
                x.circuit(kind, set, 2);
                x.closure(kind, set);
            }
        }
    }
}
