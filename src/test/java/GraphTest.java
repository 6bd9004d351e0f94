import java.util.List;

/** Promises 1 to 6: what the graph is made of. A sentence that names a boundary stands above its test. */
public final class GraphTest {
    private static final Due DUE = new Due("GraphTest");

    public static void main(String[] args) {
        promise1OneVertex();
        promise1OneColourWithLimitOne();
        promise1NoEdges();
        promise1EachObjectByItself();
        promise2SoManyVerticesAndColours();
        promise2AllLimitsOne();
        promise2NoEdges();
        promise2OfTheSameSize();
        promise2NotOneToEightVertices();
        promise2NotOneToSixColours();
        promise2RefusedChangesNothing();
        promise3ItsNumber();
        promise3NoSuchVertex();
        promise3NoSuchColour();
        promise3WeightOutOfRange();
        promise3FourteenEdges();
        promise3NothingIsDone();
        promise4LimitBecomes();
        promise4LimitOfOneColourAlone();
        promise4NoSuchColour();
        promise4LimitOutOfRange();
        promise4RefusedChangesNothing();
        promise5WeightBecomes();
        promise5NoSuchEdge();
        promise5WeightOutOfRange();
        promise5RefusedChangesNothing();
        promises2To5OneAfterAnother();
        promise6HowMany();
        promise6SetsWithoutRings();
        promise6CommonSets();
        promise6NoneForOthers();
        DUE.end();
    }

    private static void sizes(ColourForests x, int vertices, int colours, int edges) {
        DUE.answer("count(0)", x.count(0), vertices);
        DUE.answer("count(1)", x.count(1), colours);
        DUE.answer("count(2)", x.count(2), edges);
    }

    /** "One vertex". */
    private static void promise1OneVertex() {
        ColourForests x = new ColourForests();
        DUE.answer("new count(0)", x.count(0), 1);
        DUE.answer("an edge to a second vertex", x.edge(0, 1, 0, 1), -1);
        DUE.answer("an edge from a second vertex", x.edge(1, 0, 0, 1), -1);
        DUE.answer("an edge of the one vertex", x.edge(0, 0, 0, 1), 0);
    }

    /** "one colour with limit 1". */
    private static void promise1OneColourWithLimitOne() {
        ColourForests x = new ColourForests();
        DUE.answer("new count(1)", x.count(1), 1);
        DUE.answer("an edge of a second colour", x.edge(0, 0, 1, 1), -1);
        DUE.thrown("limit of a second colour", Due.BOUNDS, () -> x.limit(1, 1));
        x.edge(0, 0, 0, 1);
        x.edge(0, 0, 0, 1);
        DUE.answer("one of the colour", x.free(1, 1), 1);
        DUE.answer("the other of the colour", x.free(1, 2), 1);
        DUE.answer("two of the colour", x.free(1, 3), 0);
    }

    /** "no edges." */
    private static void promise1NoEdges() {
        ColourForests x = new ColourForests();
        DUE.answer("new count(2)", x.count(2), 0);
        DUE.answer("new count(3)", x.count(3), 1);
        DUE.answer("new count(4)", x.count(4), 1);
        DUE.answer("new most()", x.most(), 0);
        DUE.answer("new dearest(0)", x.dearest(0), 0);
        DUE.answer("new dearest(1)", x.dearest(1), -1);
        DUE.answer("new weight(0)", x.weight(0), 0);
        DUE.answer("new heaviest()", x.heaviest(), 0);
        DUE.answer("new witness(0)", x.witness(0), 0);
        DUE.answer("new witness(1)", x.witness(1), 0);
        DUE.answer("new check()", x.check(), 1);
        DUE.answer("rank of edge 0", x.rank(0, 1), -1);
        DUE.thrown("weigh of edge 0", Due.BOUNDS, () -> x.weigh(0, 1));
    }

    /** "A new object": such whatever other objects were told, and they are left as they are. */
    private static void promise1EachObjectByItself() {
        ColourForests x = new ColourForests();
        DUE.same("a new object", Answers.of(x), Answers.of(Graphs.made(1, 1)));
        for (int which = 0; which < Graphs.SMALL; which++) {
            List<Long> alone = Answers.of(Graphs.small(which));
            ColourForests told = Graphs.small(which);
            ColourForests asked = Graphs.small(which);
            asked.check();
            Graphs.small((which + 1) % Graphs.SMALL).check();
            Graphs.withLimit(Graphs.loops(14), 0, 14).check();
            new ColourForests();
            DUE.same("graph " + which + ", others told behind it", Answers.of(told), alone);
            DUE.same("graph " + which + ", asked, others told behind it", Answers.of(asked), alone);
        }
    }

    /** "So many vertices and colours ... 1 .. 8 and 1 .. 6." */
    private static void promise2SoManyVerticesAndColours() {
        for (int vertices = 1; vertices <= 8; vertices++) {
            for (int colours = 1; colours <= 6; colours++) {
                ColourForests x = Graphs.made(vertices, colours);
                sizes(x, vertices, colours, 0);
                DUE.answer("no vertex behind the last", x.edge(0, vertices, 0, 0), -1);
                DUE.answer("no colour behind the last", x.edge(0, 0, colours, 0), -1);
                DUE.answer("the last vertex and colour", x.edge(vertices - 1, 0, colours - 1, 0), 0);
            }
        }
    }

    /** "all limits 1": those that were others, and those of colours that were not there. */
    private static void promise2AllLimitsOne() {
        for (int before = 1; before <= 6; before++) {
            ColourForests x = Graphs.made(3, before);
            for (int colour = 0; colour < before; colour++) {
                x.limit(colour, colour % 2 == 0 ? 0 : 14);
            }
            x.make(3, 6);
            for (int n = 0; n < 12; n++) {
                x.edge(0, 1, n / 2, 1);
            }
            for (int colour = 0; colour < 6; colour++) {
                DUE.answer("rank of two of colour " + colour + " after make", x.rank(1, 3 << 2 * colour), 1);
            }
        }
    }

    /** "no edges": those that were are forgotten, and the next is number 0. */
    private static void promise2NoEdges() {
        ColourForests x = Graphs.square();
        DUE.answer("most() before make", x.most(), 3);
        x.make(5, 3);
        sizes(x, 5, 3, 0);
        DUE.answer("most() after make", x.most(), 0);
        DUE.answer("count(3) after make", x.count(3), 1);
        DUE.answer("count(4) after make", x.count(4), 1);
        DUE.answer("dearest(1) after make", x.dearest(1), -1);
        DUE.answer("witness(1) after make", x.witness(1), 0);
        DUE.answer("rank of a forgotten edge", x.rank(0, 1), -1);
        DUE.thrown("weigh of a forgotten edge", Due.BOUNDS, () -> x.weigh(0, 0));
        DUE.answer("the next edge", x.edge(0, 0, 0, 0), 0);
        ColourForests full = Graphs.loops(14);
        full.make(1, 1);
        for (int n = 0; n < 14; n++) {
            DUE.answer("an edge after fourteen and make", full.edge(0, 0, 0, 0), n);
        }
    }

    /** "So many vertices and colours, all limits 1; no edges": the same ones again, more and fewer. */
    private static void promise2OfTheSameSize() {
        int[][] sizes = {{5, 3}, {1, 1}, {8, 6}, {4, 2}};
        for (int[] size : sizes) {
            ColourForests x = Graphs.square();
            x.check();
            x.make(size[0], size[1]);
            DUE.same("square, then make", Answers.of(x), Answers.of(Graphs.made(size[0], size[1])));
        }
    }

    /** "IllegalArgumentException when they are not 1 .. 8": vertices. */
    private static void promise2NotOneToEightVertices() {
        ColourForests x = Graphs.path();
        int[] refused = {0, 9, -1, 10, 16, Integer.MIN_VALUE, Integer.MAX_VALUE};
        for (int vertices : refused) {
            for (int colours = 0; colours <= 7; colours++) {
                int n = colours;
                DUE.thrown("make(" + vertices + ", " + n + ")", Due.ARGUMENT, () -> x.make(vertices, n));
            }
            sizes(x, 4, 2, 4);
        }
    }

    /** "IllegalArgumentException when they are not ... 1 .. 6": colours. */
    private static void promise2NotOneToSixColours() {
        ColourForests x = Graphs.path();
        int[] refused = {0, 7, -1, 8, 16, Integer.MIN_VALUE, Integer.MAX_VALUE};
        for (int colours : refused) {
            for (int vertices = 0; vertices <= 9; vertices++) {
                int n = vertices;
                DUE.thrown("make(" + n + ", " + colours + ")", Due.ARGUMENT, () -> x.make(n, colours));
            }
            sizes(x, 4, 2, 4);
        }
    }

    /** "What throws changes nothing": make. */
    private static void promise2RefusedChangesNothing() {
        int[][] refused = {{0, 2}, {9, 2}, {4, 0}, {4, 7}, {1, 7}, {8, -1}, {0, 0}, {9, 7}, {0, 3}, {5, 7}};
        for (int[] r : refused) {
            Twins.stayAlike(DUE, "make(" + r[0] + ", " + r[1] + ")", Graphs::square,
                x -> Due.thrownBy(() -> x.make(r[0], r[1])));
        }
    }

    /** "One more edge: its number." */
    private static void promise3ItsNumber() {
        ColourForests x = Graphs.made(4, 3);
        DUE.answer("first edge", x.edge(0, 1, 0, -9999), 0);
        DUE.answer("second, the same ends", x.edge(1, 0, 1, 9999), 1);
        DUE.answer("third, one vertex", x.edge(2, 2, 2, 0), 2);
        DUE.answer("fourth", x.edge(3, 2, 2, 7), 3);
        DUE.answer("count(2)", x.count(2), 4);
        DUE.answer("two of the same ends are a ring", x.free(0, 3), 0);
        DUE.answer("one with itself is a ring", x.free(0, 4), 0);
        DUE.answer("others are none", x.free(0, 9), 1);
        DUE.answer("same colour", x.free(1, 12), 0);
        DUE.answer("dearest(1)", x.dearest(1), 2);
        DUE.answer("weight(1)", x.weight(1), 9999);
        DUE.answer("weight(2)", x.weight(2), 10006);
    }

    /** "NONE, and nothing is done, when there is no such vertex". */
    private static void promise3NoSuchVertex() {
        for (int vertices = 1; vertices <= 8; vertices++) {
            ColourForests x = Graphs.made(vertices, 2);
            int[] none = {-1, vertices, vertices + 1, 8, 9, Integer.MIN_VALUE, Integer.MAX_VALUE};
            for (int vertex : none) {
                DUE.answer("edge from " + vertex + " of " + vertices, x.edge(vertex, 0, 0, 0), -1);
                DUE.answer("edge to " + vertex + " of " + vertices, x.edge(0, vertex, 0, 0), -1);
                DUE.answer("edge of " + vertex + " with itself", x.edge(vertex, vertex, 0, 0), -1);
            }
            sizes(x, vertices, 2, 0);
            DUE.answer("the last vertex", x.edge(vertices - 1, vertices - 1, 0, 0), 0);
        }
    }

    /** "NONE, and nothing is done, when there is no such ... colour". */
    private static void promise3NoSuchColour() {
        for (int colours = 1; colours <= 6; colours++) {
            ColourForests x = Graphs.made(2, colours);
            int[] none = {-1, colours, colours + 1, 6, 7, Integer.MIN_VALUE, Integer.MAX_VALUE};
            for (int colour : none) {
                DUE.answer("edge of colour " + colour + " of " + colours, x.edge(0, 1, colour, 0), -1);
            }
            sizes(x, 2, colours, 0);
            DUE.answer("the last colour", x.edge(0, 1, colours - 1, 0), 0);
        }
    }

    /** "NONE, and nothing is done, when ... the weight is not -9999 .. 9999". */
    private static void promise3WeightOutOfRange() {
        ColourForests x = Graphs.made(2, 1);
        int[] none = {-10000, 10000, -10001, 10001, Integer.MIN_VALUE, Integer.MAX_VALUE};
        for (int weight : none) {
            DUE.answer("edge of weight " + weight, x.edge(0, 1, 0, weight), -1);
        }
        sizes(x, 2, 1, 0);
        DUE.answer("the least weight", x.edge(0, 1, 0, -9999), 0);
        DUE.answer("the greatest weight", x.edge(0, 1, 0, 9999), 1);
        DUE.answer("the greater one", x.weight(1), 9999);
    }

    /** "NONE, and nothing is done, when ... there are 14." */
    private static void promise3FourteenEdges() {
        ColourForests x = Graphs.sideBySide(13);
        DUE.answer("the fourteenth", x.edge(0, 1, 0, 5), 13);
        for (int n = 0; n < 3; n++) {
            DUE.answer("one more than fourteen", x.edge(0, 1, 0, 9999), -1);
        }
        sizes(x, 2, 1, 14);
        DUE.answer("dearest(1) of fourteen", x.dearest(1), 1 << 13);
        DUE.answer("weight(1) of fourteen", x.weight(1), 5);
        DUE.answer("count(3) of fourteen", x.count(3), 14);
        DUE.answer("rank of all", x.rank(0, 16383), 1);
        DUE.answer("rank of more", x.rank(0, 16384), -1);
        Twins.stayAlike(DUE, "a fifteenth edge", () -> Graphs.sideBySide(14), y -> y.edge(0, 0, 0, 9999));
        Twins.stayAlike(DUE, "a fifteenth edge, wrong", () -> Graphs.loops(14), y -> y.edge(1, 1, 1, 10000));
    }

    /** "NONE, and nothing is done": not the least thing, whatever it is that is wrong. */
    private static void promise3NothingIsDone() {
        for (int which = 0; which < Graphs.SMALL; which++) {
            for (int reason = 0; reason < 8; reason++) {
                int graph = which;
                int wrong = reason;
                Twins.stayAlike(DUE, "an edge wrong by reason " + wrong + ", graph " + graph,
                    () -> Graphs.small(graph), x -> DUE.answer("a wrong edge", wrongEdge(x, wrong), -1));
            }
        }
    }

    private static int wrongEdge(ColourForests x, int reason) {
        int vertices = x.count(0);
        int colours = x.count(1);
        switch (reason) {
            case 0:
                return x.edge(-1, 0, 0, 9);
            case 1:
                return x.edge(vertices, 0, 0, 9);
            case 2:
                return x.edge(0, -1, 0, 9);
            case 3:
                return x.edge(0, vertices, 0, 9);
            case 4:
                return x.edge(0, vertices - 1, -1, 9);
            case 5:
                return x.edge(0, vertices - 1, colours, 9);
            case 6:
                return x.edge(0, vertices - 1, 0, -10000);
            default:
                return x.edge(0, vertices - 1, colours - 1, 10000);
        }
    }

    /** "A colour's limit becomes n." n from 0 to 14, up and down. */
    private static void promise4LimitBecomes() {
        ColourForests x = Graphs.row(7);
        for (int n = 0; n < 7; n++) {
            x.edge(n, n, 0, 1);
        }
        for (int n = 0; n <= 14; n++) {
            x.limit(0, n);
            DUE.answer("rank of all, limit " + n, x.rank(1, 16383), n);
            DUE.answer("most(), limit " + n, x.most(), Math.min(7, n));
            x.limit(0, 14 - n);
            DUE.answer("rank of all, limit " + (14 - n), x.rank(1, 16383), 14 - n);
            DUE.answer("most(), limit " + (14 - n), x.most(), Math.min(7, 14 - n));
        }
    }

    /** "A colour's limit becomes n": no other one's does. */
    private static void promise4LimitOfOneColourAlone() {
        for (int colour = 0; colour < 6; colour++) {
            for (int n = 0; n <= 2; n++) {
                ColourForests x = Graphs.made(2, 6);
                for (int edge = 0; edge < 12; edge++) {
                    x.edge(0, 1, edge % 6, 0);
                }
                x.limit(colour, n);
                for (int other = 0; other < 6; other++) {
                    DUE.answer("rank of two of colour " + other + ", limit " + n + " of " + colour,
                        x.rank(1, 65 << other), other == colour ? n : 1);
                }
            }
        }
    }

    /** "IndexOutOfBoundsException when there is no such colour". */
    private static void promise4NoSuchColour() {
        for (int colours = 1; colours <= 6; colours++) {
            ColourForests x = Graphs.made(2, 6);
            x.make(2, colours);
            int[] none = {-1, colours, 6, 7, 14, Integer.MIN_VALUE, Integer.MAX_VALUE};
            for (int colour : none) {
                DUE.thrown("limit(" + colour + ", 1) of " + colours, Due.BOUNDS, () -> x.limit(colour, 1));
                DUE.thrown("limit(" + colour + ", 15) of " + colours, Due.BOUNDS, () -> x.limit(colour, 15));
            }
            int last = colours - 1;
            DUE.thrown("limit of the last colour", Due.NOTHING, () -> x.limit(last, 1));
            DUE.thrown("limit of the first colour", Due.NOTHING, () -> x.limit(0, 1));
        }
    }

    /** "IllegalArgumentException when n is not 0 .. 14." */
    private static void promise4LimitOutOfRange() {
        ColourForests x = Graphs.made(2, 6);
        int[] none = {-1, 15, -2, 16, Integer.MIN_VALUE, Integer.MAX_VALUE};
        for (int colour = 0; colour < 6; colour++) {
            int c = colour;
            for (int n : none) {
                DUE.thrown("limit(" + c + ", " + n + ")", Due.ARGUMENT, () -> x.limit(c, n));
            }
            DUE.thrown("limit 0", Due.NOTHING, () -> x.limit(c, 0));
            DUE.thrown("limit 14", Due.NOTHING, () -> x.limit(c, 14));
        }
    }

    /** "What throws changes nothing": limit. */
    private static void promise4RefusedChangesNothing() {
        int[][] refused = {{-1, 4}, {3, 4}, {5, 0}, {0, -1}, {0, 15}, {1, 15}, {2, 15}, {2, -1}, {3, 15}};
        for (int[] r : refused) {
            Twins.stayAlike(DUE, "limit(" + r[0] + ", " + r[1] + ")", Graphs::square,
                x -> Due.thrownBy(() -> x.limit(r[0], r[1])));
        }
    }

    /** "An edge's weight becomes w." */
    private static void promise5WeightBecomes() {
        ColourForests x = Graphs.made(3, 2);
        x.edge(0, 1, 0, 1);
        x.edge(1, 2, 1, 2);
        DUE.answer("dearest(1)", x.dearest(1), 2);
        x.weigh(0, 9999);
        DUE.answer("dearest(1) after weigh", x.dearest(1), 1);
        DUE.answer("weight(2) after weigh", x.weight(2), 10001);
        x.weigh(1, -9999);
        DUE.answer("weight(2) at both ends", x.weight(2), 0);
        DUE.answer("heaviest() at both ends", x.heaviest(), 1);
        x.weigh(0, 0);
        DUE.answer("weight(1) of nothing", x.weight(1), 0);
        DUE.answer("heaviest() of nothing", x.heaviest(), 0);
    }

    /** "IndexOutOfBoundsException when there is no such edge". */
    private static void promise5NoSuchEdge() {
        for (int edges = 0; edges <= 14; edges++) {
            ColourForests x = Graphs.sideBySide(edges);
            int[] none = {-1, edges, 14, 15, 32, Integer.MIN_VALUE, Integer.MAX_VALUE};
            for (int edge : none) {
                DUE.thrown("weigh(" + edge + ", 0) of " + edges, Due.BOUNDS, () -> x.weigh(edge, 0));
                DUE.thrown("weigh(" + edge + ", 10000) of " + edges, Due.BOUNDS, () -> x.weigh(edge, 10000));
            }
            for (int edge = 0; edge < edges; edge++) {
                x.weigh(edge, 1 + edge);
                DUE.answer("dearest(1) of " + edges, x.dearest(1), 1 << edge);
            }
        }
    }

    /** "IllegalArgumentException when w is not -9999 .. 9999." */
    private static void promise5WeightOutOfRange() {
        ColourForests x = Graphs.path();
        int[] none = {10000, -10000, 10001, -10001, Integer.MAX_VALUE, Integer.MIN_VALUE};
        for (int edge = 0; edge < 4; edge++) {
            int e = edge;
            for (int w : none) {
                DUE.thrown("weigh(" + e + ", " + w + ")", Due.ARGUMENT, () -> x.weigh(e, w));
            }
            DUE.thrown("weigh(" + e + ", 9999)", Due.NOTHING, () -> x.weigh(e, 9999));
            DUE.thrown("weigh(" + e + ", -9999)", Due.NOTHING, () -> x.weigh(e, -9999));
        }
        DUE.answer("weight(2) of the least", x.weight(2), -19998);
    }

    /** "What throws changes nothing": weigh. */
    private static void promise5RefusedChangesNothing() {
        int[][] refused = {{-1, 30}, {7, 30}, {13, 30}, {14, 30}, {0, 10000}, {3, -10000}, {6, 10000}, {7, 10000}};
        for (int[] r : refused) {
            Twins.stayAlike(DUE, "weigh(" + r[0] + ", " + r[1] + ")", Graphs::square,
                x -> Due.thrownBy(() -> x.weigh(r[0], r[1])));
        }
    }

    /** Each change shows in the next answers, whatever other change came before or after it. */
    private static void promises2To5OneAfterAnother() {
        for (int first = 0; first < 4; first++) {
            for (int second = 0; second < 4; second++) {
                ColourForests unasked = Graphs.square();
                change(unasked, first, 0);
                change(unasked, second, 1);
                List<Long> due = Answers.of(unasked);
                ColourForests asked = Graphs.square();
                asked.check();
                change(asked, first, 0);
                change(asked, second, 1);
                DUE.same("asked, change " + first + ", change " + second, Answers.of(asked), due);
                ColourForests askedOften = Graphs.square();
                askedOften.check();
                change(askedOften, first, 0);
                askedOften.check();
                change(askedOften, second, 1);
                DUE.same("change " + first + ", asked, change " + second, Answers.of(askedOften), due);
            }
        }
    }

    /** The changes by make, edge, limit and weigh. */
    private static void change(ColourForests x, int what, int n) {
        switch (what) {
            case 0:
                x.make(5, 3);
                x.edge(0, 1, n, 8);
                break;
            case 1:
                x.edge(3, 4, n, 8 + n);
                break;
            case 2:
                x.limit(2 * n, 1);
                break;
            default:
                x.weigh(0, 50 + n);
                break;
        }
    }

    /** "How many vertices (what 0), colours (1), edges (2) there are". */
    private static void promise6HowMany() {
        for (int edges = 0; edges <= 14; edges++) {
            sizes(Graphs.sideBySide(edges), 2, 1, edges);
        }
        sizes(Graphs.square(), 5, 3, 7);
        sizes(Graphs.bundleAndTail(), 6, 4, 6);
    }

    /** "sets that are free by kind 0 and have as many edges as any such set (3)". */
    private static void promise6SetsWithoutRings() {
        DUE.answer("count(3) of no edges", Graphs.made(8, 6).count(3), 1);
        DUE.answer("count(3) of loops alone", Graphs.loops(14).count(3), 1);
        DUE.answer("count(3) of one edge", Graphs.row(1).count(3), 1);
        DUE.answer("count(3) of no ring", Graphs.row(7).count(3), 1);
        for (int n = 2; n <= 8; n++) {
            DUE.answer("count(3) of a ring of " + n, Graphs.ring(n).count(3), n);
        }
        for (int n = 1; n <= 14; n++) {
            DUE.answer("count(3) of " + n + " side by side", Graphs.sideBySide(n).count(3), n);
        }
        ColourForests x = Graphs.square();
        DUE.answer("count(3) of a square, a way across and an edge beside", x.count(3), 13);
        x.limit(0, 0);
        DUE.answer("limits are nothing to it", x.count(3), 13);
        DUE.answer("count(3) of two parts", Graphs.bundleAndTail().count(3), 3);
    }

    /** "common sets (4)": the empty set is one. */
    private static void promise6CommonSets() {
        DUE.answer("count(4) of no edges", Graphs.made(8, 6).count(4), 1);
        DUE.answer("count(4) of loops alone", Graphs.withLimit(Graphs.loops(14), 0, 14).count(4), 1);
        DUE.answer("count(4) of no room", Graphs.withLimit(Graphs.row(7), 0, 0).count(4), 1);
        DUE.answer("count(4) of room for one", Graphs.row(7).count(4), 8);
        DUE.answer("count(4) of room for six", Graphs.withLimit(Graphs.row(7), 0, 6).count(4), 127);
        DUE.answer("count(4) of room for all", Graphs.withLimit(Graphs.row(7), 0, 7).count(4), 128);
        DUE.answer("count(4) of more room", Graphs.withLimit(Graphs.row(7), 0, 14).count(4), 128);
        DUE.answer("count(4) of a ring of eight", Graphs.withLimit(Graphs.ring(8), 0, 14).count(4), 255);
        DUE.answer("count(4) of fourteen side by side", Graphs.withLimit(Graphs.sideBySide(14), 0, 14).count(4), 15);
        ColourForests x = Graphs.bundleAndTail();
        DUE.answer("count(4) of two parts", x.count(4), 16);
        x.limit(3, 3);
        DUE.answer("count(4) of two parts and more room", x.count(4), 32);
    }

    /** "NONE for others." */
    private static void promise6NoneForOthers() {
        ColourForests x = Graphs.square();
        int[] others = {-1, 5, 6, -2, 32, Integer.MIN_VALUE, Integer.MAX_VALUE};
        for (int what : others) {
            DUE.answer("count(" + what + ")", x.count(what), -1);
            DUE.answer("new count(" + what + ")", new ColourForests().count(what), -1);
        }
    }
}
