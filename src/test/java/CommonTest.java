/**
 * Promises 11 to 16: the most, the dearest sets and the witnesses. A sentence that names a boundary stands
 * above its test.
 */
public final class CommonTest {
    private static final Due DUE = new Due("CommonTest");

    public static void main(String[] args) {
        promise11Most();
        promise11MostAtItsEnds();
        promise11MostFollowsChanges();
        promise12Dearest();
        promise12DearestOfEquals();
        promise12DearestLeavesALighterOne();
        promise12DearestOfNone();
        promise12DearestOfAll();
        promise12NoSetOfSoMany();
        promise12NoSetOfSoManyAnyMore();
        promise13Weight();
        promise13WeightAtItsEnds();
        promise13NoSetOfSoMany();
        promise13RefusedChangesNothing();
        promise14Heaviest();
        promise14LeastOfEquals();
        promise14NoneWeighsMoreThanNothing();
        promise14AllOfTheMost();
        promise15Witness();
        promise15BothAreTheSame();
        promise15NothingAndAll();
        promise15NoRoom();
        promise15RingsAlone();
        promise15NoneForOthers();
        promise16Check();
        promise16CheckAtTheEnds();
        promise16CheckOfGains();
        asksChangeNothing();
        DUE.end();
    }

    private static void promise11Most() {
        ColourForests x = Graphs.path();
        DUE.answer("most()", x.most(), 2);
        x.limit(0, 2);
        DUE.answer("most() of two and one", x.most(), 3);
        x.limit(0, 14);
        DUE.answer("most() when rings alone bind", x.most(), 3);
        x.limit(1, 0);
        DUE.answer("most() without the second colour", x.most(), 3);
        x.limit(0, 0);
        DUE.answer("most() without any", x.most(), 0);
    }

    /** "THE MOST": 0 with no edges, and 7 when all eight vertices are joined. */
    private static void promise11MostAtItsEnds() {
        DUE.answer("most() of a new object", new ColourForests().most(), 0);
        DUE.answer("most() of no edges", Graphs.made(8, 6).most(), 0);
        DUE.answer("most() of one edge", Graphs.row(1).most(), 1);
        DUE.answer("most() of one loop", Graphs.loops(1).most(), 0);
        ColourForests x = Graphs.made(8, 6);
        for (int n = 0; n < 14; n++) {
            x.edge(n % 8, (n + 1 + n / 8) % 8, n % 6, 0);
        }
        DUE.answer("most() of fourteen edges, six colours with limit 1", x.most(), 6);
        x.limit(5, 2);
        DUE.answer("most() of fourteen edges, room for seven", x.most(), 7);
        for (int colour = 0; colour < 6; colour++) {
            x.limit(colour, 14);
        }
        DUE.answer("most() of fourteen edges, room for all", x.most(), 7);
    }

    private static void promise11MostFollowsChanges() {
        ColourForests x = new ColourForests();
        DUE.answer("most() at first", x.most(), 0);
        x.make(3, 2);
        DUE.answer("most() after make", x.most(), 0);
        x.edge(0, 1, 0, 1);
        DUE.answer("most() after an edge", x.most(), 1);
        x.edge(1, 2, 0, 1);
        DUE.answer("most() after an edge of the same colour", x.most(), 1);
        x.limit(0, 2);
        DUE.answer("most() after limit", x.most(), 2);
        DUE.answer("count(4) after limit", x.count(4), 4);
        x.make(3, 2);
        DUE.answer("most() after make again", x.most(), 0);
        DUE.answer("count(4) after make again", x.count(4), 1);
    }

    private static void promise12Dearest() {
        ColourForests x = Graphs.path();
        DUE.answer("dearest(0)", x.dearest(0), 0);
        DUE.answer("dearest(1)", x.dearest(1), 8);
        DUE.answer("dearest(2)", x.dearest(2), 6);
        x.limit(0, 2);
        DUE.answer("dearest(2) of two and one", x.dearest(2), 10);
        DUE.answer("dearest(3) of two and one", x.dearest(3), 7);
        x.weigh(0, 9);
        DUE.answer("dearest(1) of equals", x.dearest(1), 1);
        DUE.answer("dearest(2) after weigh", x.dearest(2), 9);
    }

    /** "the one that is the least number": among six edges of the same weight below nothing. */
    private static void promise12DearestOfEquals() {
        ColourForests x = Graphs.made(4, 4);
        for (int a = 0; a < 4; a++) {
            for (int b = a + 1; b < 4; b++) {
                x.edge(a, b, (a + b) % 4, -7);
            }
        }
        DUE.answer("least number of 1", x.dearest(1), 1);
        DUE.answer("least number of 2", x.dearest(2), 3);
        DUE.answer("least number of 3", x.dearest(3), 7);
        x.weigh(0, -8);
        DUE.answer("least number of 1 without edge 0", x.dearest(1), 2);
        DUE.answer("least number of 2 without edge 0", x.dearest(2), 6);
        DUE.answer("no set of 4", x.dearest(4), -1);
    }

    /** "that have the greatest weight together": the dearest edge is in no dearest pair. */
    private static void promise12DearestLeavesALighterOne() {
        ColourForests x = Graphs.made(3, 2);
        x.edge(0, 1, 0, 10);
        x.edge(1, 0, 1, 9);
        x.edge(1, 2, 0, 8);
        DUE.answer("dearest(1)", x.dearest(1), 1);
        DUE.answer("dearest(2)", x.dearest(2), 6);
        DUE.answer("weight(2)", x.weight(2), 17);
    }

    /** "For each k from 0": of no edges there is the empty set, and no other. */
    private static void promise12DearestOfNone() {
        for (int which = 0; which < Graphs.SMALL; which++) {
            DUE.answer("dearest(0) of graph " + which, Graphs.small(which).dearest(0), 0);
        }
        DUE.answer("dearest(0) of fourteen loops", Graphs.loops(14).dearest(0), 0);
    }

    /** "For each k ... to the most": all edges there are, below nothing or not. */
    private static void promise12DearestOfAll() {
        for (int edges = 1; edges <= 7; edges++) {
            ColourForests x = Graphs.withLimit(Graphs.row(edges), 0, edges);
            DUE.answer("dearest of all " + edges, x.dearest(edges), (1 << edges) - 1);
            DUE.answer("dearest of one more", x.dearest(edges + 1), -1);
            for (int edge = 0; edge < edges; edge++) {
                x.weigh(edge, -9999);
            }
            DUE.answer("dearest of all " + edges + " below nothing", x.dearest(edges), (1 << edges) - 1);
        }
    }

    /** Numbers of edges that no common set of the path has, as its most is 2. */
    private static final int[] NO_SIZES = {-1, 3, 4, 5, 7, 8, 9, 14, 15, 16, 31, 32, -2, Integer.MIN_VALUE,
        Integer.MAX_VALUE};

    /** "NONE when there is no common set of k edges." */
    private static void promise12NoSetOfSoMany() {
        ColourForests x = Graphs.path();
        for (int k : NO_SIZES) {
            DUE.answer("dearest(" + k + ")", x.dearest(k), -1);
        }
        int[] nothing = {-1, 1, 2, 14, Integer.MIN_VALUE, Integer.MAX_VALUE};
        for (int k : nothing) {
            DUE.answer("new dearest(" + k + ")", new ColourForests().dearest(k), -1);
            DUE.answer("dearest(" + k + ") of loops", Graphs.loops(14).dearest(k), -1);
            DUE.answer("dearest(" + k + ") of no room", Graphs.withLimit(Graphs.row(7), 0, 0).dearest(k), -1);
        }
    }

    /** "NONE when there is no common set of k edges": there was one before a change. */
    private static void promise12NoSetOfSoManyAnyMore() {
        ColourForests x = Graphs.withLimit(Graphs.path(), 0, 2);
        DUE.answer("dearest(3) at first", x.dearest(3), 7);
        x.limit(0, 1);
        DUE.answer("dearest(3) no more", x.dearest(3), -1);
        DUE.thrown("weight(3) no more", Due.ARGUMENT, () -> x.weight(3));
        DUE.answer("dearest(2) still", x.dearest(2), 6);
        x.make(4, 2);
        DUE.answer("dearest(1) no more", x.dearest(1), -1);
        DUE.thrown("weight(1) no more", Due.ARGUMENT, () -> x.weight(1));
        DUE.answer("dearest(0) still", x.dearest(0), 0);
    }

    private static void promise13Weight() {
        ColourForests x = Graphs.path();
        DUE.answer("weight(0)", x.weight(0), 0);
        DUE.answer("weight(1)", x.weight(1), 9);
        DUE.answer("weight(2)", x.weight(2), 1);
        x.weigh(2, 9999);
        DUE.answer("weight(1) after weigh", x.weight(1), 9999);
        DUE.answer("weight(2) after weigh", x.weight(2), 10004);
    }

    /** "The weight of THE DEAREST set of k edges": none of k edges weighs more or less than k of 9999. */
    private static void promise13WeightAtItsEnds() {
        for (int end = -9999; end <= 9999; end += 2 * 9999) {
            ColourForests x = Graphs.withLimit(Graphs.row(7), 0, 14);
            for (int edge = 0; edge < 7; edge++) {
                x.weigh(edge, end);
            }
            for (int k = 0; k <= 7; k++) {
                DUE.answer("weight(" + k + ")", x.weight(k), k * end);
            }
        }
    }

    /** "IllegalArgumentException when there is no common set of k edges." */
    private static void promise13NoSetOfSoMany() {
        ColourForests x = Graphs.path();
        for (int k : NO_SIZES) {
            DUE.thrown("weight(" + k + ")", Due.ARGUMENT, () -> x.weight(k));
        }
        int[] nothing = {-1, 1, 2, 14, Integer.MIN_VALUE, Integer.MAX_VALUE};
        for (int k : nothing) {
            DUE.thrown("new weight(" + k + ")", Due.ARGUMENT, () -> new ColourForests().weight(k));
            DUE.thrown("weight(" + k + ") of loops", Due.ARGUMENT, () -> Graphs.loops(14).weight(k));
            DUE.thrown("weight(" + k + ") of no room", Due.ARGUMENT,
                () -> Graphs.withLimit(Graphs.row(7), 0, 0).weight(k));
        }
        for (int most = 0; most < 7; most++) {
            int more = most + 1;
            ColourForests y = Graphs.withLimit(Graphs.row(7), 0, most);
            DUE.thrown("weight of one more than the most", Due.ARGUMENT, () -> y.weight(more));
            DUE.answer("weight of the most", y.weight(most), 0);
        }
    }

    /** "What throws changes nothing": weight. */
    private static void promise13RefusedChangesNothing() {
        for (int which = 0; which < Graphs.SMALL; which++) {
            int graph = which;
            Twins.stayAlike(DUE, "weight of no size, graph " + which, () -> Graphs.small(graph), x -> {
                Due.thrownBy(() -> x.weight(-1));
                Due.thrownBy(() -> x.weight(x.most() + 1));
                Due.thrownBy(() -> x.weight(14));
            });
        }
    }

    private static void promise14Heaviest() {
        ColourForests x = Graphs.path();
        DUE.answer("heaviest() in the middle", x.heaviest(), 1);
        x.weigh(2, 4);
        DUE.answer("heaviest() when two weigh as much as one", x.heaviest(), 1);
        x.weigh(2, 5);
        DUE.answer("heaviest() at the end", x.heaviest(), 2);
        x.weigh(2, 3);
        DUE.answer("heaviest() in the middle again", x.heaviest(), 1);
    }

    /** "The least k whose dearest set weighs as much as any common set does." */
    private static void promise14LeastOfEquals() {
        for (int heavy = 0; heavy <= 7; heavy++) {
            for (int rest = -1; rest <= 0; rest++) {
                ColourForests x = Graphs.withLimit(Graphs.row(7), 0, 14);
                for (int edge = 0; edge < 7; edge++) {
                    x.weigh(edge, edge < heavy ? 1 : rest);
                }
                DUE.answer("heaviest(), " + heavy + " of weight 1, others " + rest, x.heaviest(), heavy);
            }
        }
    }

    /** "The least k ...": 0 when no edge that can be in weighs more than nothing. */
    private static void promise14NoneWeighsMoreThanNothing() {
        DUE.answer("heaviest() of a new object", new ColourForests().heaviest(), 0);
        DUE.answer("heaviest() of weights 0", Graphs.withLimit(Graphs.row(7), 0, 14).heaviest(), 0);
        ColourForests below = Graphs.path();
        for (int edge = 0; edge < 4; edge++) {
            below.weigh(edge, -1 - edge);
        }
        DUE.answer("heaviest() below nothing", below.heaviest(), 0);
        ColourForests loops = Graphs.loops(3);
        loops.weigh(1, 9999);
        DUE.answer("heaviest() of a heavy loop", loops.heaviest(), 0);
        ColourForests noRoom = Graphs.withLimit(Graphs.row(3), 0, 0);
        noRoom.weigh(1, 9999);
        DUE.answer("heaviest() of no room", noRoom.heaviest(), 0);
    }

    /** "as much as any common set does": each edge more is some weight more, up to the most. */
    private static void promise14AllOfTheMost() {
        for (int most = 0; most <= 7; most++) {
            ColourForests x = Graphs.withLimit(Graphs.row(7), 0, most);
            for (int edge = 0; edge < 7; edge++) {
                x.weigh(edge, 9999 - edge);
            }
            DUE.answer("heaviest() of a most of " + most, x.heaviest(), most);
        }
    }

    private static void promise15Witness() {
        ColourForests x = Graphs.path();
        DUE.answer("witness(0) when colours bind", x.witness(0), 0);
        DUE.answer("witness(1) when colours bind", x.witness(1), 12);
        x.limit(0, 14);
        x.limit(1, 14);
        DUE.answer("witness(0) when rings bind", x.witness(0), 12);
        DUE.answer("witness(1) when rings bind", x.witness(1), 15);
    }

    /** "THE LEAST", "THE GREATEST": there is but one witness. */
    private static void promise15BothAreTheSame() {
        ColourForests x = Graphs.bundleAndTail();
        DUE.answer("most()", x.most(), 2);
        DUE.answer("witness(0)", x.witness(0), 7);
        DUE.answer("witness(1)", x.witness(1), 7);
        DUE.answer("rank of both sides", x.rank(0, 7) + x.rank(1, 56), 2);
    }

    /** "THE LEAST", "THE GREATEST": nothing and all edges are witnesses. */
    private static void promise15NothingAndAll() {
        for (int edges = 0; edges <= 7; edges++) {
            ColourForests x = Graphs.withLimit(Graphs.row(edges), 0, edges);
            DUE.answer("witness(0) of a row of " + edges, x.witness(0), 0);
            DUE.answer("witness(1) of a row of " + edges, x.witness(1), (1 << edges) - 1);
        }
        DUE.answer("witness(0) of fourteen side by side", Graphs.sideBySide(14).witness(0), 0);
        DUE.answer("witness(1) of fourteen side by side", Graphs.sideBySide(14).witness(1), 16383);
    }

    /** A witness where THE MOST is 0 as colours have no room: nothing, or what are rings of one edge. */
    private static void promise15NoRoom() {
        ColourForests x = Graphs.withLimit(Graphs.row(7), 0, 0);
        DUE.answer("witness(0) of no room", x.witness(0), 0);
        DUE.answer("witness(1) of no room", x.witness(1), 0);
        x.edge(1, 1, 0, 0);
        x.edge(7, 7, 0, 0);
        DUE.answer("witness(0) of no room, with loops", x.witness(0), 0);
        DUE.answer("witness(1) of no room, with loops", x.witness(1), 3 << 7);
        ColourForests loops = Graphs.withLimit(Graphs.loops(14), 0, 0);
        DUE.answer("witness(0) of no room, loops alone", loops.witness(0), 0);
        DUE.answer("witness(1) of no room, loops alone", loops.witness(1), 16383);
    }

    /** A witness where THE MOST is 0 as all edges are rings: all that have room are in it. */
    private static void promise15RingsAlone() {
        for (int edges = 0; edges <= 14; edges++) {
            ColourForests x = Graphs.loops(edges);
            DUE.answer("witness(0) of loops", x.witness(0), (1 << edges) - 1);
            DUE.answer("witness(1) of loops", x.witness(1), (1 << edges) - 1);
        }
        ColourForests two = Graphs.made(1, 2);
        two.edge(0, 0, 0, 0);
        two.edge(0, 0, 1, 0);
        two.limit(0, 0);
        DUE.answer("witness(0) of loops, one without room", two.witness(0), 2);
        DUE.answer("witness(1) of loops, one without room", two.witness(1), 3);
    }

    /** "NONE for others." */
    private static void promise15NoneForOthers() {
        int[] others = {-1, 2, 3, -2, 32, Integer.MIN_VALUE, Integer.MAX_VALUE};
        for (int way : others) {
            DUE.answer("witness(" + way + ")", Graphs.path().witness(way), -1);
            DUE.answer("new witness(" + way + ")", new ColourForests().witness(way), -1);
        }
    }

    private static void promise16Check() {
        ColourForests x = Graphs.path();
        DUE.answer("check()", x.check(), 1);
        x.limit(0, 2);
        DUE.answer("check() after limit", x.check(), 1);
        x.weigh(2, 9999);
        DUE.answer("check() after weigh", x.check(), 1);
        x.edge(0, 3, 1, -9999);
        DUE.answer("check() after edge", x.check(), 1);
        x.make(8, 6);
        DUE.answer("check() after make", x.check(), 1);
        for (int n = 0; n < 14; n++) {
            x.edge(n % 8, n * 3 % 8, n % 6, n * n % 11 - 5);
            DUE.answer("check() after edge " + n, x.check(), 1);
        }
    }

    /** "1": with nothing in the graph, with all that it can hold, and where there is no gain at all. */
    private static void promise16CheckAtTheEnds() {
        DUE.answer("new check()", new ColourForests().check(), 1);
        for (int which = 0; which < Graphs.SMALL; which++) {
            DUE.answer("check() of graph " + which, Graphs.small(which).check(), 1);
        }
        for (int n = 0; n <= 14; n++) {
            DUE.answer("check() of loops, limit " + n, Graphs.withLimit(Graphs.loops(14), 0, n).check(), 1);
            DUE.answer("check() of side by side, limit " + n, Graphs.withLimit(Graphs.sideBySide(14), 0, n).check(), 1);
            DUE.answer("check() of a row, limit " + n, Graphs.withLimit(Graphs.row(7), 0, n).check(), 1);
            DUE.answer("check() of a ring, limit " + n, Graphs.withLimit(Graphs.ring(8), 0, n).check(), 1);
        }
    }

    /** "gain no more from k to k + 1 than from k - 1 to k": as much, or less, above nothing and below it. */
    private static void promise16CheckOfGains() {
        int[][] rows = {{5, 5, 5}, {0, 0, 0}, {-5, -5, -5}, {-1, -2, -3}, {9999, 0, -9999}, {-3, -2, -1}};
        for (int[] row : rows) {
            ColourForests x = Graphs.made(4, 3);
            for (int n = 0; n < 3; n++) {
                x.edge(n, n + 1, n, row[n]);
            }
            DUE.answer("most()", x.most(), 3);
            DUE.answer("weight(3)", x.weight(3), row[0] + row[1] + row[2]);
            DUE.answer("check()", x.check(), 1);
        }
    }

    /** A question is no change, whether it is answered or told NONE. */
    private static void asksChangeNothing() {
        for (int which = 0; which < Graphs.SMALL; which++) {
            int graph = which;
            Twins.stayAlike(DUE, "questions, graph " + which, () -> Graphs.small(graph), CommonTest::askAll);
        }
    }

    private static void askAll(ColourForests x) {
        for (int n = -1; n <= 8; n++) {
            x.count(n);
            x.dearest(n);
            x.witness(n);
            x.most();
            x.heaviest();
            x.check();
        }
    }
}
