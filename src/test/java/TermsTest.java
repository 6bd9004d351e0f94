import java.util.Arrays;

/** The sentences of 'What it is' and 'Terms' that name a boundary, each above its test. */
public final class TermsTest {
    private static final Due DUE = new Due("TermsTest");
    private static final int CALLS = 512;

    public static void main(String[] args) {
        lastOfTheCalls();
        lastOfTheCallsThrows();
        manyChanges();
        vertices();
        edges();
        ends();
        colours();
        weights();
        limits();
        sets();
        ringOfOneAndOfTwo();
        ringsOfEachLength();
        notMoreThanTheLimit();
        eachColourByItself();
        freeByBothKinds();
        emptySet();
        rankIsOfTheLargestWithin();
        circuitsAreLeast();
        justOneCircuit();
        mostIsOfTheLargest();
        eachSizeUpToTheMost();
        leastNumberOfEquals();
        noSetIsLessThanTheMost();
        witnessesHaveTheMost();
        leastAndGreatestWitness();
        throwingChangesNothing();
        firstOfTwoExceptions();
        none();
        DUE.end();
    }

    /** After 511 calls: a path of two edges, of which edge 0 weighs 510 and edge 1 weighs 5. */
    private static ColourForests beforeTheLastCall() {
        ColourForests x = Graphs.made(3, 2);
        x.edge(0, 1, 0, 0);
        x.edge(1, 2, 1, 5);
        for (int call = 4; call < CALLS; call++) {
            if (call % 2 == 0) {
                x.weigh(0, call);
            } else {
                x.most();
            }
        }
        return x;
    }

    /** "An object is used for at most 512 calls after it has been made." */
    private static void lastOfTheCalls() {
        DUE.answer("512th call edge", beforeTheLastCall().edge(0, 2, 0, 0), 2);
        DUE.answer("512th call count(2)", beforeTheLastCall().count(2), 2);
        DUE.answer("512th call count(4)", beforeTheLastCall().count(4), 4);
        DUE.answer("512th call rank", beforeTheLastCall().rank(0, 3), 2);
        DUE.answer("512th call free", beforeTheLastCall().free(2, 3), 1);
        DUE.answer("512th call circuit", beforeTheLastCall().circuit(1, 1, 1), 0);
        DUE.answer("512th call closure", beforeTheLastCall().closure(1, 2), 2);
        DUE.answer("512th call most", beforeTheLastCall().most(), 2);
        DUE.answer("512th call dearest", beforeTheLastCall().dearest(1), 1);
        DUE.answer("512th call weight", beforeTheLastCall().weight(2), 515);
        DUE.answer("512th call heaviest", beforeTheLastCall().heaviest(), 2);
        DUE.answer("512th call witness(0)", beforeTheLastCall().witness(0), 0);
        DUE.answer("512th call witness(1)", beforeTheLastCall().witness(1), 3);
        DUE.answer("512th call check", beforeTheLastCall().check(), 1);
    }

    /** "An object is used for at most 512 calls after it has been made": those that answer nothing. */
    private static void lastOfTheCallsThrows() {
        DUE.thrown("512th call make", Due.NOTHING, () -> beforeTheLastCall().make(8, 6));
        DUE.thrown("512th call make, wrong", Due.ARGUMENT, () -> beforeTheLastCall().make(9, 6));
        DUE.thrown("512th call limit", Due.NOTHING, () -> beforeTheLastCall().limit(1, 14));
        DUE.thrown("512th call limit, wrong", Due.ARGUMENT, () -> beforeTheLastCall().limit(1, 15));
        DUE.thrown("512th call weigh", Due.NOTHING, () -> beforeTheLastCall().weigh(1, 9999));
        DUE.thrown("512th call weigh, wrong", Due.BOUNDS, () -> beforeTheLastCall().weigh(2, 9999));
        DUE.thrown("512th call weight, wrong", Due.ARGUMENT, () -> beforeTheLastCall().weight(3));
    }

    /** "An object is used for at most 512 calls after it has been made": all but one are changes. */
    private static void manyChanges() {
        ColourForests x = new ColourForests();
        for (int call = 1; call < CALLS - 15; call++) {
            x.make(1 + call % 8, 1 + call % 6);
        }
        x.make(2, 1);
        for (int n = 0; n < 14; n++) {
            x.edge(0, 1, 0, n);
        }
        DUE.answer("dearest(1) after 511 changes", x.dearest(1), 1 << 13);
    }

    /** "THE GRAPH has 1 to 8 VERTICES ... numbered from 0". */
    private static void vertices() {
        ColourForests one = Graphs.made(1, 1);
        DUE.answer("the one vertex has number 0", one.edge(0, 0, 0, 0), 0);
        DUE.answer("no vertex 1 of one", one.edge(0, 1, 0, 0), -1);
        ColourForests eight = Graphs.row(7);
        DUE.answer("eight vertices, number 7 is the last", eight.count(2), 7);
        DUE.answer("a row through all eight has no ring", eight.free(0, 127), 1);
        DUE.answer("no vertex 8 of eight", eight.edge(7, 8, 0, 0), -1);
        for (int vertex = 0; vertex < 7; vertex++) {
            DUE.answer("vertex " + vertex + " is one of the row", eight.edge(vertex, 7, 0, 0), 7 + vertex);
            DUE.answer("so an edge from it makes a ring", eight.free(0, 127 | 1 << 7 + vertex), 0);
        }
    }

    /** "at most 14 EDGES, all numbered from 0". */
    private static void edges() {
        ColourForests x = Graphs.made(2, 1);
        for (int n = 0; n < 14; n++) {
            DUE.answer("the number of an edge", x.edge(0, 1, 0, 0), n);
            DUE.answer("count(2)", x.count(2), n + 1);
        }
        DUE.answer("the fifteenth", x.edge(0, 1, 0, 0), -1);
        DUE.answer("count(2) after the fifteenth", x.count(2), 14);
    }

    /** "an edge joins two vertices (perhaps one with itself; several may join the same ones)". */
    private static void ends() {
        ColourForests x = Graphs.made(3, 2);
        DUE.answer("one with itself", x.edge(2, 2, 0, 0), 0);
        DUE.answer("the same one again", x.edge(2, 2, 0, 0), 1);
        DUE.answer("two", x.edge(0, 1, 1, 0), 2);
        DUE.answer("the same two, the same colour", x.edge(0, 1, 1, 0), 3);
        DUE.answer("the same two, told from the other", x.edge(1, 0, 0, 0), 4);
        DUE.answer("rank of all", x.rank(0, 31), 1);
        DUE.answer("closure of an edge", x.closure(0, 4), 31);
        DUE.answer("fourteen of one vertex with itself", Graphs.loops(14).count(2), 14);
        DUE.answer("fourteen of the same two", Graphs.sideBySide(14).count(2), 14);
    }

    /** "has one of 1 to 6 COLOURS", numbered from 0. */
    private static void colours() {
        for (int colours = 1; colours <= 6; colours++) {
            ColourForests x = Graphs.made(1, colours);
            for (int colour = 0; colour < colours; colour++) {
                DUE.answer("an edge of colour " + colour, x.edge(0, 0, colour, 0), colour);
            }
            DUE.answer("no colour " + colours, x.edge(0, 0, colours, 0), -1);
            DUE.answer("each is of a colour of its own", x.rank(1, (1 << colours) - 1), colours);
        }
    }

    /** "a WEIGHT, a whole number from -9999 to 9999". */
    private static void weights() {
        int[] weights = {-9999, -9998, -1, 0, 1, 9998, 9999};
        for (int weight : weights) {
            ColourForests x = Graphs.made(2, 1);
            DUE.answer("edge of weight " + weight, x.edge(0, 1, 0, weight), 0);
            DUE.answer("its weight", x.weight(1), weight);
            x.weigh(0, 7);
            x.weigh(0, weight);
            DUE.answer("weighed anew", x.weight(1), weight);
        }
    }

    /** "Each colour has a LIMIT from 0 to 14." */
    private static void limits() {
        for (int colour = 0; colour < 6; colour++) {
            ColourForests x = Graphs.made(1, 6);
            for (int n = 0; n < 14; n++) {
                x.edge(0, 0, colour, 0);
            }
            for (int n = 14; n >= 0; n--) {
                x.limit(colour, n);
                DUE.answer("rank with limit " + n + " of colour " + colour, x.rank(1, 16383), n);
            }
        }
    }

    /** "SETS of edges are told as numbers: bit e is 1 for those edges e that are in." */
    private static void sets() {
        ColourForests x = Graphs.made(8, 1);
        for (int n = 0; n < 14; n++) {
            x.edge(n % 8, (n + 1 + n / 8) % 8, 0, n);
        }
        for (int n = 0; n < 14; n++) {
            x.weigh(n, 9000);
            DUE.answer("the set of edge " + n, x.dearest(1), 1 << n);
            DUE.answer("its closure", x.closure(0, 1 << n), 1 << n);
            DUE.answer("what an edge more makes of it", x.circuit(1, 1 << n, (n + 1) % 14), 1 << n | 1 << (n + 1) % 14);
            x.weigh(n, n);
        }
        DUE.answer("the set of all", x.closure(1, 1), 16383);
    }

    /** "(an edge that joins a vertex with itself is a ring; two edges that join the same ones are one)". */
    private static void ringOfOneAndOfTwo() {
        ColourForests x = Graphs.made(3, 1);
        x.edge(1, 1, 0, 0);
        x.edge(0, 1, 0, 0);
        x.edge(0, 1, 0, 0);
        x.edge(1, 0, 0, 0);
        x.edge(1, 2, 0, 0);
        DUE.answer("one with itself", x.free(0, 1), 0);
        DUE.answer("one with itself, and another", x.free(0, 17), 0);
        DUE.answer("two of the same ones", x.free(0, 6), 0);
        DUE.answer("two of the same ones, told from either", x.free(0, 10), 0);
        DUE.answer("one of them", x.free(0, 2), 1);
        DUE.answer("one of them and one behind it", x.free(0, 18), 1);
    }

    /** "FREE by kind 0 if no edges of it make a ring": the whole ring does, and nothing less. */
    private static void ringsOfEachLength() {
        for (int length = 1; length <= 8; length++) {
            ColourForests x = Graphs.ring(length);
            int all = (1 << length) - 1;
            DUE.answer("free(0) of a ring of " + length, x.free(0, all), 0);
            for (int n = 0; n < length; n++) {
                DUE.answer("without edge " + n, x.free(0, all & ~(1 << n)), 1);
            }
        }
    }

    /** "by kind 1 if it has of no colour more edges than its limit": as many are free, one more is not. */
    private static void notMoreThanTheLimit() {
        ColourForests x = Graphs.loops(14);
        for (int n = 0; n <= 14; n++) {
            x.limit(0, n);
            DUE.answer("as many as the limit " + n, x.free(1, (1 << n) - 1), 1);
            if (n < 14) {
                DUE.answer("one more than the limit " + n, x.free(1, (2 << n) - 1), 0);
                DUE.answer("one more, others", x.free(1, 16383 & -1 << 13 - n), 0);
            }
        }
    }

    /** "by kind 1 if it has of no colour more edges than its limit": a colour with room does not help another. */
    private static void eachColourByItself() {
        for (int over = 0; over < 6; over++) {
            ColourForests x = Graphs.made(1, 6);
            for (int n = 0; n < 12; n++) {
                x.edge(0, 0, n % 6, 0);
            }
            for (int colour = 0; colour < 6; colour++) {
                x.limit(colour, colour == over ? 1 : 14);
            }
            int firstOfIt = 1 << over;
            DUE.answer("two of colour " + over, x.free(1, firstOfIt | firstOfIt << 6), 0);
            DUE.answer("all", x.free(1, 4095), 0);
            DUE.answer("all but one of it", x.free(1, 4095 & ~firstOfIt), 1);
        }
    }

    /** "It is COMMON if it is free by both kinds." */
    private static void freeByBothKinds() {
        ColourForests x = Graphs.square();
        DUE.answer("free by both", x.free(2, 7), 1);
        DUE.answer("by kind 0 alone", x.free(2, 12), 0);
        DUE.answer("by kind 1 alone", x.free(2, 33), 0);
        DUE.answer("by neither", x.free(2, 35), 0);
        for (int set = 0; set < 64; set++) {
            DUE.answer("free(2, " + set + ")", x.free(2, set), x.free(0, set) & x.free(1, set));
        }
    }

    /** "(The empty set is.)" */
    private static void emptySet() {
        emptySetIsCommon("a new object", new ColourForests());
        emptySetIsCommon("no room for any colour", Graphs.withLimit(Graphs.row(3), 0, 0));
        emptySetIsCommon("edges that are rings", Graphs.loops(3));
        emptySetIsCommon("eight vertices, six colours, no edges", Graphs.made(8, 6));
        emptySetIsCommon("edges", Graphs.square());
    }

    private static void emptySetIsCommon(String graph, ColourForests x) {
        for (int kind = 0; kind <= 2; kind++) {
            DUE.answer(graph + ": free(" + kind + ", 0)", x.free(kind, 0), 1);
        }
        DUE.answer(graph + ": dearest(0)", x.dearest(0), 0);
        DUE.answer(graph + ": weight(0)", x.weight(0), 0);
    }

    /** "THE RANK of a set, by a kind, is how many edges the largest free set within it has." */
    private static void rankIsOfTheLargestWithin() {
        for (int which = 0; which < Graphs.SMALL; which++) {
            for (int kind = 0; kind <= 1; kind++) {
                int[] free = freeByKind(which, kind);
                ColourForests x = Graphs.small(which);
                for (int set = 0; set < free.length; set++) {
                    DUE.answer("graph " + which + " rank(" + kind + ", " + set + ")", x.rank(kind, set),
                        largestWithin(free, set));
                }
            }
        }
    }

    private static int[] freeByKind(int which, int kind) {
        ColourForests x = Graphs.small(which);
        int[] free = new int[Graphs.allEdges(x) + 1];
        for (int set = 0; set < free.length; set++) {
            free[set] = x.free(kind, set);
        }
        return free;
    }

    private static int largestWithin(int[] free, int set) {
        int largest = 0;
        for (int part = 0; part < free.length; part++) {
            if ((part & ~set) == 0 && free[part] == 1) {
                largest = Math.max(largest, Integer.bitCount(part));
            }
        }
        return largest;
    }

    /** "A CIRCUIT, by a kind, is a set that is not free, but is free without any one of its edges." */
    private static void circuitsAreLeast() {
        for (int which = 0; which < Graphs.SMALL; which++) {
            for (int kind = 0; kind <= 1; kind++) {
                int[] free = freeByKind(which, kind);
                for (int edge = 0; 1 << edge < free.length; edge++) {
                    circuitsWithEdge(which, kind, edge, free);
                }
            }
        }
    }

    private static void circuitsWithEdge(int which, int kind, int edge, int[] free) {
        ColourForests x = Graphs.small(which);
        for (int set = 0; set < free.length; set++) {
            int both = set | 1 << edge;
            if (free[set] == 0 || both == set) {
                continue;
            }
            int circuit = x.circuit(kind, set, edge);
            String call = "graph " + which + " circuit(" + kind + ", " + set + ", " + edge + ") = " + circuit;
            DUE.answer(call + ", 0 or not", circuit == 0 ? 1 : 0, free[both]);
            DUE.holds(call + " lies within both", (circuit & ~both) == 0);
            DUE.holds(call + " is a circuit", circuit == 0 || isCircuit(free, circuit));
        }
    }

    private static boolean isCircuit(int[] free, int set) {
        if (free[set] == 1) {
            return false;
        }
        for (int part = set; part > 0; part &= part - 1) {
            if (free[set & ~Integer.lowestOneBit(part)] == 0) {
                return false;
            }
        }
        return true;
    }

    /** "When a free set and one edge more are not free together, there is just one circuit within them." */
    private static void justOneCircuit() {
        for (int which = 0; which < Graphs.SMALL; which++) {
            for (int kind = 0; kind <= 1; kind++) {
                int[] free = freeByKind(which, kind);
                for (int set = 0; set < free.length; set++) {
                    for (int edge = 0; free[set] == 1 && 1 << edge < free.length; edge++) {
                        int both = set | 1 << edge;
                        DUE.answer("graph " + which + ", kind " + kind + ", circuits within " + both,
                            circuitsWithin(free, both), free[both] == 1 ? 0 : 1);
                    }
                }
            }
        }
    }

    private static int circuitsWithin(int[] free, int set) {
        int circuits = 0;
        for (int part = set; part > 0; part = part - 1 & set) {
            circuits += isCircuit(free, part) ? 1 : 0;
        }
        return circuits;
    }

    /** "THE MOST is how many edges the largest common set has." */
    private static void mostIsOfTheLargest() {
        DUE.answer("most() of a new object", new ColourForests().most(), 0);
        for (int which = 0; which < Graphs.SMALL; which++) {
            int[] common = freeByKind(which, 2);
            DUE.answer("graph " + which + " most()", Graphs.small(which).most(),
                largestWithin(common, common.length - 1));
        }
        DUE.answer("most() of a row of seven with limit 7", Graphs.withLimit(Graphs.row(7), 0, 7).most(), 7);
        DUE.answer("most() of a row of seven with limit 6", Graphs.withLimit(Graphs.row(7), 0, 6).most(), 6);
        DUE.answer("most() of a row of seven with limit 0", Graphs.withLimit(Graphs.row(7), 0, 0).most(), 0);
        DUE.answer("most() of a ring of eight", Graphs.withLimit(Graphs.ring(8), 0, 14).most(), 7);
        DUE.answer("most() of fourteen side by side", Graphs.withLimit(Graphs.sideBySide(14), 0, 14).most(), 1);
        DUE.answer("most() of fourteen loops", Graphs.withLimit(Graphs.loops(14), 0, 14).most(), 0);
    }

    /** "For each k from 0 to the most THE DEAREST set is ...". */
    private static void eachSizeUpToTheMost() {
        for (int most = 0; most <= 7; most++) {
            ColourForests x = Graphs.withLimit(Graphs.row(7), 0, most);
            for (int k = 0; k <= 8; k++) {
                DUE.answer("dearest(" + k + ") of a most of " + most, x.dearest(k), k <= most ? (1 << k) - 1 : -1);
            }
        }
    }

    /** "... that have the greatest weight together, the one that is the least number." */
    private static void leastNumberOfEquals() {
        ColourForests x = Graphs.withLimit(Graphs.row(4), 0, 2);
        DUE.answer("all of the same weight: one", x.dearest(1), 1);
        DUE.answer("all of the same weight: two", x.dearest(2), 3);
        x.weigh(1, -1);
        DUE.answer("one is lighter: one", x.dearest(1), 1);
        DUE.answer("one is lighter: two", x.dearest(2), 5);
        x.weigh(0, -1);
        DUE.answer("two are lighter: one", x.dearest(1), 4);
        DUE.answer("two are lighter: two", x.dearest(2), 12);
        x.weigh(2, 1);
        x.weigh(3, -2);
        DUE.answer("1 and -1 of 0 or 1: two", x.dearest(2), 5);
        x.weigh(3, 2);
        x.weigh(0, 3);
        x.weigh(1, 4);
        x.weigh(2, 3);
        DUE.answer("3 and 4 three ways: two", x.dearest(2), 3);
        x.weigh(3, 4);
        x.weigh(1, 3);
        DUE.answer("one is dearer: one", x.dearest(1), 8);
        DUE.answer("one is dearer: two", x.dearest(2), 9);
    }

    /** The ranks by kind 0 of each set, and by kind 1 of all other edges, together. */
    private static int[] ranksTogether(int which) {
        ColourForests x = Graphs.small(which);
        int all = Graphs.allEdges(x);
        int[] together = new int[all + 1];
        for (int set = 0; set <= all; set++) {
            together[set] = x.rank(0, set) + x.rank(1, all & ~set);
        }
        return together;
    }

    /** "(For any set it is not less.)" */
    private static void noSetIsLessThanTheMost() {
        for (int which = 0; which < Graphs.SMALL; which++) {
            int most = Graphs.small(which).most();
            int[] together = ranksTogether(which);
            for (int set = 0; set < together.length; set++) {
                DUE.holds("graph " + which + ", set " + set + ": " + together[set] + " not less than " + most,
                    together[set] >= most);
            }
        }
    }

    /** "A WITNESS is a set A with rank of A by kind 0, and rank of all other edges by kind 1, together THE MOST." */
    private static void witnessesHaveTheMost() {
        for (int which = 0; which < Graphs.SMALL; which++) {
            ColourForests x = Graphs.small(which);
            int[] together = ranksTogether(which);
            DUE.answer("graph " + which + ", witness(0)", together[x.witness(0)], x.most());
            DUE.answer("graph " + which + ", witness(1)", together[x.witness(1)], x.most());
        }
    }

    /** "there is one that lies within all others, THE LEAST, and one that holds all others, THE GREATEST." */
    private static void leastAndGreatestWitness() {
        for (int which = 0; which < Graphs.SMALL; which++) {
            ColourForests x = Graphs.small(which);
            int[] together = ranksTogether(which);
            int least = together.length - 1;
            int greatest = 0;
            for (int set = 0; set < together.length; set++) {
                if (together[set] == x.most()) {
                    least &= set;
                    greatest |= set;
                }
            }
            DUE.answer("graph " + which + ", witness(0)", x.witness(0), least);
            DUE.answer("graph " + which + ", witness(1)", x.witness(1), greatest);
        }
    }

    /** "What throws changes nothing". */
    private static void throwingChangesNothing() {
        for (int which = 0; which < Graphs.SMALL; which++) {
            int graph = which;
            Twins.stayAlike(DUE, "calls that throw, graph " + which, () -> Graphs.small(graph), TermsTest::throwAll);
        }
    }

    private static void throwAll(ColourForests x) {
        int colours = x.count(1);
        int edges = x.count(2);
        DUE.thrown("make(9, 1)", Due.ARGUMENT, () -> x.make(9, 1));
        DUE.thrown("make(2, 7)", Due.ARGUMENT, () -> x.make(2, 7));
        DUE.thrown("make(0, 6)", Due.ARGUMENT, () -> x.make(0, 6));
        DUE.thrown("make(8, 0)", Due.ARGUMENT, () -> x.make(8, 0));
        DUE.thrown("limit of no colour", Due.BOUNDS, () -> x.limit(colours, 3));
        DUE.thrown("limit of colour -1", Due.BOUNDS, () -> x.limit(-1, 3));
        DUE.thrown("limit 15", Due.ARGUMENT, () -> x.limit(0, 15));
        DUE.thrown("limit -1", Due.ARGUMENT, () -> x.limit(colours - 1, -1));
        DUE.thrown("weigh of no edge", Due.BOUNDS, () -> x.weigh(edges, 3));
        DUE.thrown("weigh of edge -1", Due.BOUNDS, () -> x.weigh(-1, 3));
        DUE.thrown("weight of no size", Due.ARGUMENT, () -> x.weight(-1));
        DUE.thrown("weight of size 14", Due.ARGUMENT, () -> x.weight(14));
        if (edges > 0) {
            DUE.thrown("weigh too much", Due.ARGUMENT, () -> x.weigh(0, 10000));
            DUE.thrown("weigh too little", Due.ARGUMENT, () -> x.weigh(edges - 1, -10000));
        }
    }

    /** "of two exceptions the first of its heading is thrown." */
    private static void firstOfTwoExceptions() {
        ColourForests x = Graphs.path();
        int[] noColours = {-1, 2, 5, 6, Integer.MIN_VALUE, Integer.MAX_VALUE};
        int[] noLimits = {-1, 15, Integer.MIN_VALUE, Integer.MAX_VALUE};
        for (int colour : noColours) {
            for (int n : noLimits) {
                DUE.thrown("limit(" + colour + ", " + n + ")", Due.BOUNDS, () -> x.limit(colour, n));
            }
        }
        int[] noEdges = {-1, 4, 13, 14, Integer.MIN_VALUE, Integer.MAX_VALUE};
        int[] noWeights = {-10000, 10000, Integer.MIN_VALUE, Integer.MAX_VALUE};
        for (int edge : noEdges) {
            for (int w : noWeights) {
                DUE.thrown("weigh(" + edge + ", " + w + ")", Due.BOUNDS, () -> x.weigh(edge, w));
            }
        }
    }

    /** "`NONE = -1`: There is none." Sets and numbers that there are, are never told so. */
    private static void none() {
        DUE.answer("NONE", ColourForests.NONE, -1);
        int[] told = {Graphs.square().edge(0, 0, 0, 0), Graphs.loops(14).closure(0, 16383), Graphs.loops(1).dearest(0),
            Graphs.loops(14).witness(1)};
        DUE.holds("no answer of " + Arrays.toString(told) + " below 0", Arrays.stream(told).min().getAsInt() >= 0);
    }
}
