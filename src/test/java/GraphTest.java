/** Promises 1 to 6: what the graph is made of. */
public final class GraphTest {
    private static final Due DUE = new Due("GraphTest");

    public static void main(String[] args) {
        promise1NewObject();
        promise2Make();
        promise2MakeForgets();
        promise2MakeRefuses();
        promise3Edge();
        promise3EdgeRefuses();
        promise3FourteenEdges();
        promise4Limit();
        promise4LimitRefuses();
        promise5Weigh();
        promise5WeighRefuses();
        promise6Count();
        promise6CountOfForests();
        DUE.end();
    }

    private static void promise1NewObject() {
        ColourForests x = new ColourForests();
        sizes(x, 1, 1, 0);
        DUE.answer("new count(3)", x.count(3), 1);
        DUE.answer("new count(4)", x.count(4), 1);
        DUE.answer("new most()", x.most(), 0);
        DUE.answer("new dearest(0)", x.dearest(0), 0);
        DUE.answer("new heaviest()", x.heaviest(), 0);
        DUE.answer("new check()", x.check(), 1);
        DUE.answer("new witness(0)", x.witness(0), 0);
        DUE.answer("new witness(1)", x.witness(1), 0);
        DUE.answer("edge(0, 0, 0, 1)", x.edge(0, 0, 0, 1), 0);
        DUE.answer("edge(0, 0, 0, 1) again", x.edge(0, 0, 0, 1), 1);
        DUE.answer("limit of a new object: one", x.free(1, 1), 1);
        DUE.answer("limit of a new object: two", x.free(1, 3), 0);
    }

    private static void promise2Make() {
        ColourForests x = new ColourForests();
        int[][] wanted = {{1, 1}, {8, 6}, {1, 6}, {8, 1}, {3, 2}};
        for (int[] want : wanted) {
            x.make(want[0], want[1]);
            sizes(x, want[0], want[1], 0);
            DUE.answer("most() of no edges", x.most(), 0);
            DUE.answer("last vertex and colour", x.edge(want[0] - 1, 0, want[1] - 1, 0), 0);
            DUE.answer("no vertex behind the last", x.edge(want[0], 0, 0, 0), -1);
            DUE.answer("no colour behind the last", x.edge(0, 0, want[1], 0), -1);
        }
    }

    private static void promise2MakeForgets() {
        ColourForests x = made(8, 6);
        for (int colour = 0; colour < 6; colour++) {
            x.limit(colour, 4 + colour);
        }
        x.edge(0, 1, 0, 9);
        x.edge(1, 2, 0, 9);
        DUE.answer("most() before make", x.most(), 2);
        x.make(4, 6);
        sizes(x, 4, 6, 0);
        DUE.answer("most() after make", x.most(), 0);
        DUE.answer("dearest(1) after make", x.dearest(1), -1);
        DUE.answer("rank of a forgotten edge", x.rank(0, 1), -1);
        for (int colour = 0; colour < 6; colour++) {
            x.edge(0, 1, colour, 1);
            x.edge(1, 2, colour, 1);
            DUE.answer("limit is 1 after make", x.rank(1, 3 << 2 * colour), 1);
        }
    }

    private static void promise2MakeRefuses() {
        ColourForests x = made(3, 2);
        x.limit(0, 5);
        x.edge(0, 1, 0, 4);
        int[][] refused = {{0, 1}, {9, 1}, {1, 0}, {1, 7}, {-1, 1}, {1, -1}, {0, 0}, {9, 7},
            {Integer.MIN_VALUE, 1}, {1, Integer.MAX_VALUE}};
        for (int[] r : refused) {
            DUE.thrown("make(" + r[0] + ", " + r[1] + ")", Due.ARGUMENT, () -> x.make(r[0], r[1]));
            sizes(x, 3, 2, 1);
        }
        x.edge(1, 2, 0, 4);
        DUE.answer("limit after a refused make", x.rank(1, 3), 2);
    }

    private static void promise3Edge() {
        ColourForests x = made(4, 3);
        DUE.answer("first edge", x.edge(0, 1, 0, -9999), 0);
        DUE.answer("second, the same ends", x.edge(1, 0, 1, 9999), 1);
        DUE.answer("third, one vertex", x.edge(2, 2, 2, 0), 2);
        DUE.answer("fourth", x.edge(3, 2, 2, 7), 3);
        DUE.answer("two of the same ends are a ring", x.free(0, 3), 0);
        DUE.answer("one with itself is a ring", x.free(0, 4), 0);
        DUE.answer("others are none", x.free(0, 9), 1);
        DUE.answer("same colour", x.free(1, 12), 0);
        DUE.answer("dearest(1)", x.dearest(1), 2);
        DUE.answer("weight(1)", x.weight(1), 9999);
        DUE.answer("weight(2)", x.weight(2), 10006);
    }

    private static void promise3EdgeRefuses() {
        ColourForests x = made(3, 2);
        x.edge(0, 1, 1, 5);
        int[][] refused = {{-1, 0, 0, 0}, {3, 0, 0, 0}, {0, -1, 0, 0}, {0, 3, 0, 0}, {0, 1, -1, 0}, {0, 1, 2, 0},
            {0, 1, 0, 10000}, {0, 1, 0, -10000}, {Integer.MAX_VALUE, 0, 0, 0}, {0, Integer.MIN_VALUE, 0, 0},
            {0, 1, Integer.MAX_VALUE, 0}, {0, 1, 0, Integer.MIN_VALUE}, {0, 1, 0, Integer.MAX_VALUE}};
        for (int[] r : refused) {
            DUE.answer("a wrong edge", x.edge(r[0], r[1], r[2], r[3]), -1);
            sizes(x, 3, 2, 1);
        }
        DUE.answer("most() after wrong edges", x.most(), 1);
        DUE.answer("the next right edge", x.edge(1, 2, 0, 5), 1);
    }

    private static void promise3FourteenEdges() {
        ColourForests x = made(2, 1);
        for (int n = 0; n < 14; n++) {
            DUE.answer("edge " + n, x.edge(0, 1, 0, n), n);
        }
        DUE.answer("the fifteenth", x.edge(0, 1, 0, 9999), -1);
        sizes(x, 2, 1, 14);
        DUE.answer("dearest(1) of fourteen", x.dearest(1), 1 << 13);
        DUE.answer("count(3) of fourteen", x.count(3), 14);
        DUE.answer("rank of all", x.rank(0, 16383), 1);
        DUE.answer("rank of more", x.rank(0, 16384), -1);
    }

    private static void promise4Limit() {
        ColourForests x = made(8, 2);
        for (int n = 0; n < 7; n++) {
            x.edge(n, n + 1, 0, 1);
        }
        for (int n = 0; n < 7; n++) {
            x.edge(n, n, 0, 1);
        }
        for (int n = 0; n <= 14; n++) {
            x.limit(0, n);
            DUE.answer("rank of all, limit " + n, x.rank(1, 16383), n);
            DUE.answer("most(), limit " + n, x.most(), Math.min(7, n));
        }
        x.limit(1, 3);
        DUE.answer("another colour's limit", x.rank(1, 16383), 14);
        x.limit(0, 2);
        DUE.answer("a limit that falls", x.most(), 2);
    }

    private static void promise4LimitRefuses() {
        ColourForests x = made(3, 2);
        x.edge(0, 1, 0, 1);
        x.edge(1, 2, 0, 1);
        x.limit(0, 2);
        int[][] noColour = {{-1, 0}, {2, 0}, {6, 1}, {2, 15}, {-1, -1}, {Integer.MIN_VALUE, 99}, {Integer.MAX_VALUE, 0}};
        for (int[] r : noColour) {
            DUE.thrown("limit(" + r[0] + ", " + r[1] + ")", Due.BOUNDS, () -> x.limit(r[0], r[1]));
        }
        int[] noLimit = {-1, 15, Integer.MIN_VALUE, Integer.MAX_VALUE};
        for (int n : noLimit) {
            DUE.thrown("limit(0, " + n + ")", Due.ARGUMENT, () -> x.limit(0, n));
            DUE.answer("rank after a refused limit", x.rank(1, 3), 2);
            DUE.answer("most() after a refused limit", x.most(), 2);
        }
    }

    private static void promise5Weigh() {
        ColourForests x = made(3, 2);
        x.edge(0, 1, 0, 1);
        x.edge(1, 2, 1, 2);
        DUE.answer("dearest(1)", x.dearest(1), 2);
        x.weigh(0, 9999);
        DUE.answer("dearest(1) after weigh", x.dearest(1), 1);
        DUE.answer("weight(2) after weigh", x.weight(2), 10001);
        x.weigh(1, -9999);
        DUE.answer("weight(2) at both ends", x.weight(2), 0);
        DUE.answer("heaviest() at both ends", x.heaviest(), 1);
        x.weigh(0, 0);
        DUE.answer("weight(1) of nothing", x.weight(1), 0);
        DUE.answer("heaviest() of nothing", x.heaviest(), 0);
    }

    private static void promise5WeighRefuses() {
        ColourForests x = made(3, 2);
        x.edge(0, 1, 0, 1);
        int[][] noEdge = {{-1, 0}, {1, 0}, {13, 0}, {14, 0}, {1, 10000}, {-1, -10000}, {Integer.MAX_VALUE, 5},
            {Integer.MIN_VALUE, 5}};
        for (int[] r : noEdge) {
            DUE.thrown("weigh(" + r[0] + ", " + r[1] + ")", Due.BOUNDS, () -> x.weigh(r[0], r[1]));
        }
        int[] noWeight = {10000, -10000, Integer.MAX_VALUE, Integer.MIN_VALUE};
        for (int w : noWeight) {
            DUE.thrown("weigh(0, " + w + ")", Due.ARGUMENT, () -> x.weigh(0, w));
            DUE.answer("weight(1) after a refused weigh", x.weight(1), 1);
        }
        x.make(3, 2);
        DUE.thrown("weigh of a forgotten edge", Due.BOUNDS, () -> x.weigh(0, 0));
    }

    private static void promise6Count() {
        ColourForests x = made(5, 4);
        x.edge(0, 1, 0, 1);
        sizes(x, 5, 4, 1);
        DUE.answer("count(-1)", x.count(-1), -1);
        DUE.answer("count(5)", x.count(5), -1);
        DUE.answer("count(far)", x.count(Integer.MAX_VALUE), -1);
        DUE.answer("count(far below)", x.count(Integer.MIN_VALUE), -1);
    }

    private static void promise6CountOfForests() {
        ColourForests x = made(4, 2);
        x.edge(0, 1, 0, 1);
        x.edge(1, 2, 0, 1);
        x.edge(2, 0, 1, 1);
        DUE.answer("trees of a triangle", x.count(3), 3);
        DUE.answer("common sets of a triangle", x.count(4), 6);
        x.edge(3, 3, 1, 1);
        DUE.answer("trees with one loop more", x.count(3), 3);
        DUE.answer("common sets with one loop more", x.count(4), 6);
        x.limit(0, 0);
        DUE.answer("limits are nothing to trees", x.count(3), 3);
        DUE.answer("common sets without a colour", x.count(4), 2);
        x.limit(1, 0);
        DUE.answer("only the empty set", x.count(4), 1);
    }

    private static ColourForests made(int vertices, int colours) {
        ColourForests x = new ColourForests();
        x.make(vertices, colours);
        return x;
    }

    private static void sizes(ColourForests x, int vertices, int colours, int edges) {
        DUE.answer("count(0)", x.count(0), vertices);
        DUE.answer("count(1)", x.count(1), colours);
        DUE.answer("count(2)", x.count(2), edges);
    }
}
