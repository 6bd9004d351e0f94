/** Promises 11 to 16: the most, the dearest sets and the witnesses. */
public final class CommonTest {
    private static final Due DUE = new Due("CommonTest");

    public static void main(String[] args) {
        promise11Most();
        promise11MostFollowsChanges();
        promise12Dearest();
        promise12DearestOfEquals();
        promise12DearestLeavesALighterOne();
        promise12DearestRefuses();
        promise13Weight();
        promise13WeightRefuses();
        promise14Heaviest();
        promise15Witness();
        promise15WitnessOfPaths();
        promise15WitnessRefuses();
        promise16Check();
        promise16CheckOfGains();
        DUE.end();
    }

    /** A path of three edges, colours 0, 0 and 1, and one edge beside the last, colour 0. */
    private static ColourForests path() {
        ColourForests x = new ColourForests();
        x.make(4, 2);
        x.edge(0, 1, 0, 3);
        x.edge(1, 2, 0, 5);
        x.edge(2, 3, 1, -4);
        x.edge(2, 3, 0, 9);
        return x;
    }

    private static void promise11Most() {
        ColourForests x = path();
        DUE.answer("most()", x.most(), 2);
        x.limit(0, 2);
        DUE.answer("most() of two and one", x.most(), 3);
        x.limit(0, 14);
        DUE.answer("most() when rings alone bind", x.most(), 3);
        x.limit(1, 0);
        DUE.answer("most() without the second colour", x.most(), 3);
        x.limit(0, 0);
        DUE.answer("most() without any", x.most(), 0);
        x.make(8, 6);
        for (int n = 0; n < 7; n++) {
            x.edge(n, n + 1, n % 6, 0);
        }
        DUE.answer("most() of six colours", x.most(), 6);
        x.limit(0, 2);
        DUE.answer("most() of eight vertices", x.most(), 7);
    }

    private static void promise11MostFollowsChanges() {
        ColourForests x = new ColourForests();
        DUE.answer("most() at first", x.most(), 0);
        x.make(3, 2);
        DUE.answer("most() after make", x.most(), 0);
        x.edge(0, 1, 0, 1);
        DUE.answer("most() after an edge", x.most(), 1);
        x.edge(1, 2, 0, 1);
        DUE.answer("most() after an edge of the same colour", x.most(), 1);
        x.limit(0, 2);
        DUE.answer("most() after limit", x.most(), 2);
        DUE.answer("count(4) after limit", x.count(4), 4);
        x.make(3, 2);
        DUE.answer("most() after make again", x.most(), 0);
        DUE.answer("count(4) after make again", x.count(4), 1);
    }

    private static void promise12Dearest() {
        ColourForests x = path();
        DUE.answer("dearest(0)", x.dearest(0), 0);
        DUE.answer("dearest(1)", x.dearest(1), 8);
        DUE.answer("dearest(2)", x.dearest(2), 6);
        DUE.answer("dearest(3)", x.dearest(3), -1);
        x.limit(0, 2);
        DUE.answer("dearest(2) of two and one", x.dearest(2), 10);
        DUE.answer("dearest(3) of two and one", x.dearest(3), 7);
        x.weigh(0, 9);
        DUE.answer("dearest(1) of equals", x.dearest(1), 1);
        DUE.answer("dearest(2) after weigh", x.dearest(2), 9);
    }

    private static void promise12DearestOfEquals() {
        ColourForests x = new ColourForests();
        x.make(4, 4);
        for (int a = 0; a < 4; a++) {
            for (int b = a + 1; b < 4; b++) {
                x.edge(a, b, (a + b) % 4, -7);
            }
        }
        DUE.answer("least number of 1", x.dearest(1), 1);
        DUE.answer("least number of 2", x.dearest(2), 3);
        DUE.answer("least number of 3", x.dearest(3), 7);
        x.weigh(0, -8);
        DUE.answer("least number of 1 without edge 0", x.dearest(1), 2);
        DUE.answer("least number of 2 without edge 0", x.dearest(2), 6);
        DUE.answer("no set of 4", x.dearest(4), -1);
    }

    /** The best single edge is in no best pair: taking it would be the greedy way. */
    private static void promise12DearestLeavesALighterOne() {
        ColourForests x = new ColourForests();
        x.make(3, 2);
        x.edge(0, 1, 0, 10);
        x.edge(1, 0, 1, 9);
        x.edge(1, 2, 0, 8);
        DUE.answer("dearest(1)", x.dearest(1), 1);
        DUE.answer("dearest(2)", x.dearest(2), 6);
        DUE.answer("weight(2)", x.weight(2), 17);
    }

    private static void promise12DearestRefuses() {
        ColourForests x = path();
        int[] noSizes = {-1, 3, 7, 8, 14, 15, 32, Integer.MIN_VALUE, Integer.MAX_VALUE};
        for (int k : noSizes) {
            DUE.answer("dearest(" + k + ")", x.dearest(k), -1);
        }
        x.limit(0, 2);
        DUE.answer("dearest(3) at first", x.dearest(3), 7);
        x.limit(0, 1);
        DUE.answer("dearest(3) no more", x.dearest(3), -1);
    }

    private static void promise13Weight() {
        ColourForests x = path();
        DUE.answer("weight(0)", x.weight(0), 0);
        DUE.answer("weight(1)", x.weight(1), 9);
        DUE.answer("weight(2)", x.weight(2), 1);
        x.weigh(2, 9999);
        DUE.answer("weight(1) after weigh", x.weight(1), 9999);
        DUE.answer("weight(2) after weigh", x.weight(2), 10004);
        x.make(8, 6);
        for (int n = 0; n < 7; n++) {
            x.limit(n % 6, 2);
            x.edge(n, n + 1, n % 6, -9999);
        }
        DUE.answer("weight(7) at the lowest", x.weight(7), -69993);
    }

    private static void promise13WeightRefuses() {
        ColourForests x = path();
        int[] noSizes = {-1, 3, 7, 8, 14, 15, 32, Integer.MIN_VALUE, Integer.MAX_VALUE};
        for (int k : noSizes) {
            DUE.thrown("weight(" + k + ")", Due.ARGUMENT, () -> x.weight(k));
        }
        DUE.answer("weight(2) after all", x.weight(2), 1);
    }

    private static void promise14Heaviest() {
        ColourForests x = path();
        DUE.answer("heaviest() in the middle", x.heaviest(), 1);
        x.weigh(2, 4);
        DUE.answer("heaviest() of equals", x.heaviest(), 1);
        x.weigh(2, 5);
        DUE.answer("heaviest() at the end", x.heaviest(), 2);
        for (int edge = 0; edge < 4; edge++) {
            x.weigh(edge, 0);
        }
        DUE.answer("heaviest() of nothing", x.heaviest(), 0);
        for (int edge = 0; edge < 4; edge++) {
            x.weigh(edge, -1 - edge);
        }
        DUE.answer("heaviest() below nothing", x.heaviest(), 0);
    }

    private static void promise15Witness() {
        ColourForests x = path();
        DUE.answer("witness(0) when colours bind", x.witness(0), 0);
        DUE.answer("witness(1) when colours bind", x.witness(1), 12);
        x.limit(0, 14);
        x.limit(1, 14);
        DUE.answer("witness(0) when rings bind", x.witness(0), 12);
        DUE.answer("witness(1) when rings bind", x.witness(1), 15);
        x.limit(0, 0);
        x.limit(1, 0);
        DUE.answer("witness(0) of no limit", x.witness(0), 0);
        DUE.answer("witness(1) of no limit", x.witness(1), 0);
        x.edge(1, 1, 0, 0);
        DUE.answer("witness(1) with a loop", x.witness(1), 16);
    }

    /** Three parallel edges of three colours beside three edges of one colour: each part binds by its own kind. */
    private static void promise15WitnessOfPaths() {
        ColourForests x = new ColourForests();
        x.make(6, 4);
        for (int n = 0; n < 3; n++) {
            x.edge(0, 1, n, 1);
        }
        for (int n = 0; n < 3; n++) {
            x.edge(n + 2, n + 1, 3, 1);
        }
        DUE.answer("most()", x.most(), 2);
        DUE.answer("witness(0)", x.witness(0), 7);
        DUE.answer("witness(1)", x.witness(1), 7);
        DUE.answer("rank of both sides", x.rank(0, 7) + x.rank(1, 56), 2);
    }

    private static void promise15WitnessRefuses() {
        ColourForests x = path();
        int[] noWays = {-1, 2, 3, Integer.MIN_VALUE, Integer.MAX_VALUE};
        for (int way : noWays) {
            DUE.answer("witness(" + way + ")", x.witness(way), -1);
        }
    }

    private static void promise16Check() {
        ColourForests x = path();
        DUE.answer("check()", x.check(), 1);
        x.limit(0, 2);
        DUE.answer("check() after limit", x.check(), 1);
        x.weigh(2, 9999);
        DUE.answer("check() after weigh", x.check(), 1);
        x.edge(0, 3, 1, -9999);
        DUE.answer("check() after edge", x.check(), 1);
        x.make(8, 6);
        DUE.answer("check() after make", x.check(), 1);
        for (int n = 0; n < 14; n++) {
            x.edge(n % 8, n * 3 % 8, n % 6, n * n % 11 - 5);
            DUE.answer("check() after edge " + n, x.check(), 1);
        }
    }

    /** Gains may stay the same or fall, above nothing and below it. */
    private static void promise16CheckOfGains() {
        int[][] rows = {{5, 5, 5}, {0, 0, 0}, {-5, -5, -5}, {-1, -2, -3}, {9999, 0, -9999}, {-3, -2, -1}};
        for (int[] row : rows) {
            ColourForests x = new ColourForests();
            x.make(4, 3);
            for (int n = 0; n < 3; n++) {
                x.edge(n, n + 1, n, row[n]);
            }
            DUE.answer("most()", x.most(), 3);
            DUE.answer("weight(3)", x.weight(3), row[0] + row[1] + row[2]);
            DUE.answer("check()", x.check(), 1);
        }
    }
}
