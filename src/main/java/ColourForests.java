import java.util.Arrays;

/**
 * A graph with coloured, weighted edges. Sets of edges are whole numbers, bit e for edge e; they are
 * judged by kind 0 (no rings) and by kind 1 (of no colour more than its limit).
 */
public final class ColourForests {
    public static final int NONE = -1;

    private static final int MOST_VERTICES = 8;
    private static final int MOST_COLOURS = 6;
    private static final int MOST_EDGES = 14;
    private static final int MOST_LIMIT = 14;
    private static final int MOST_WEIGHT = 9999;
    private static final int FIRST_LIMIT = 1;
    private static final int BOTH_KINDS = 2;

    /** A row of small numbers packed into one int, so that a walk can keep many rows and make none. */
    private static final int CELL_BITS = 4;
    private static final int CELL_MASK = 15;

    private final Graph graph;
    private final Kind ringless;
    private final Kind withinLimits;
    private final Survey survey;

    public ColourForests() {
        graph = new Graph();
        ringless = new RinglessKind(graph);
        withinLimits = new LimitKind(graph);
        survey = new Survey(graph);
    }

    public void make(int vertices, int colours) throws IllegalArgumentException {
        if (!within(vertices, 1, MOST_VERTICES) || !within(colours, 1, MOST_COLOURS)) {
            throw new IllegalArgumentException("vertices are 1 to 8, colours 1 to 6");
        }
        graph.restart(vertices, colours);
    }

    public int edge(int a, int b, int colour, int weight) {
        if (!graph.hasVertex(a) || !graph.hasVertex(b) || !graph.hasColour(colour)) {
            return NONE;
        }
        if (!isWeight(weight) || graph.edges == MOST_EDGES) {
            return NONE;
        }
        return graph.addEdge(a, b, colour, weight);
    }

    public void limit(int colour, int n) throws IndexOutOfBoundsException, IllegalArgumentException {
        if (!graph.hasColour(colour)) {
            throw new IndexOutOfBoundsException("no such colour");
        }
        if (!within(n, 0, MOST_LIMIT)) {
            throw new IllegalArgumentException("a limit is 0 to 14");
        }
        graph.setLimit(colour, n);
    }

    public void weigh(int edge, int w) throws IndexOutOfBoundsException, IllegalArgumentException {
        if (!graph.hasEdge(edge)) {
            throw new IndexOutOfBoundsException("no such edge");
        }
        if (!isWeight(w)) {
            throw new IllegalArgumentException("a weight is -9999 to 9999");
        }
        graph.setWeight(edge, w);
    }

    public int count(int what) {
        switch (what) {
            case 0:
                return graph.vertices;
            case 1:
                return graph.colours;
            case 2:
                return graph.edges;
            case 3:
                survey.refresh();
                return survey.widestForests;
            case 4:
                survey.refresh();
                return survey.commonSets;
            default:
                return NONE;
        }
    }

    public int rank(int kind, int set) {
        Kind judge = judgeOf(kind);
        if (judge == null || !graph.hasSet(set)) {
            return NONE;
        }
        return judge.rankOf(set);
    }

    public int free(int kind, int set) {
        if (!graph.hasSet(set)) {
            return NONE;
        }
        if (kind == BOTH_KINDS) {
            return told(isCommon(set));
        }
        Kind judge = judgeOf(kind);
        if (judge == null) {
            return NONE;
        }
        return told(judge.allows(set));
    }

    public int circuit(int kind, int set, int edge) {
        Kind judge = judgeOf(kind);
        if (judge == null || !graph.hasEdge(edge) || !graph.hasSet(set)) {
            return NONE;
        }
        if (!judge.allows(set) || hasBit(set, edge)) {
            return NONE;
        }
        return judge.circuitWithin(set | 1 << edge);
    }

    public int closure(int kind, int set) {
        Kind judge = judgeOf(kind);
        if (judge == null || !graph.hasSet(set)) {
            return NONE;
        }
        return judge.closureOf(set);
    }

    public int most() {
        survey.refresh();
        return survey.most;
    }

    public int dearest(int k) {
        survey.refresh();
        return survey.hasSize(k) ? survey.dearestSets[k] : NONE;
    }

    public int weight(int k) throws IllegalArgumentException {
        survey.refresh();
        if (!survey.hasSize(k)) {
            throw new IllegalArgumentException("no common set has so many edges");
        }
        return survey.dearestWeights[k];
    }

    public int heaviest() {
        survey.refresh();
        int best = 0;
        for (int k = 1; k <= survey.most; k++) {
            if (survey.dearestWeights[k] > survey.dearestWeights[best]) {
                best = k;
            }
        }
        return best;
    }

    public int witness(int way) {
        survey.refresh();
        switch (way) {
            case 0:
                return leastWitness();
            case 1:
                return greatestWitness();
            default:
                return NONE;
        }
    }

    public int check() {
        survey.refresh();
        boolean right = dearestAreSuch() && gainsNeverRise()
            && isWitness(leastWitness()) && isWitness(greatestWitness());
        return told(right);
    }

    private static int told(boolean answer) {
        return answer ? 1 : 0;
    }

    private static boolean within(int n, int low, int high) {
        return low <= n && n <= high;
    }

    private static boolean isWeight(int w) {
        return within(w, -MOST_WEIGHT, MOST_WEIGHT);
    }

    private static boolean hasBit(int set, int edge) {
        return (set >>> edge & 1) == 1;
    }

    private static int cell(int row, int place) {
        return row >>> CELL_BITS * place & CELL_MASK;
    }

    private static int withCell(int row, int place, int value) {
        int at = CELL_BITS * place;
        return row & ~(CELL_MASK << at) | value << at;
    }

    /** Null when there is no such kind. */
    private Kind judgeOf(int kind) {
        switch (kind) {
            case 0:
                return ringless;
            case 1:
                return withinLimits;
            default:
                return null;
        }
    }

    private boolean isCommon(int set) {
        return ringless.allows(set) && withinLimits.allows(set);
    }

    private boolean isWitness(int set) {
        int rest = graph.allEdges() & ~set;
        return ringless.rankOf(set) + withinLimits.rankOf(rest) == survey.most;
    }

    private int leastWitness() {
        return leastSplit(ringless, withinLimits);
    }

    /** What the greatest witness leaves out is the least set that does the same with the kinds changed over. */
    private int greatestWitness() {
        return graph.allEdges() & ~leastSplit(withinLimits, ringless);
    }

    /**
     * The least set whose rank by the inner kind and the rank of all other edges by the outer kind are
     * together the most. A largest common set has to span both sides of every such split, each by the
     * side's own kind; so an edge that the outside part of it does not span is inside, and with an
     * inside edge all of its circuit is. The least set closed under both rules is the answer.
     */
    private int leastSplit(Kind inner, Kind outer) {
        int largest = survey.dearestSets[survey.most];
        int inside = 0;
        for (int round = 0; round < graph.edges; round++) {
            int forced = graph.allEdges() & ~outer.closureOf(largest & ~inside) & ~inside;
            int next = Integer.lowestOneBit(forced);
            if (next == 0) {
                break;
            }
            inside |= next | inner.circuitWithin(largest | next);
        }
        return inside;
    }

    private boolean dearestAreSuch() {
        for (int k = 0; k <= survey.most; k++) {
            int set = survey.dearestSets[k];
            if (!isCommon(set) || Integer.bitCount(set) != k) {
                return false;
            }
        }
        return true;
    }

    private boolean gainsNeverRise() {
        for (int k = 1; k < survey.most; k++) {
            int before = survey.dearestWeights[k] - survey.dearestWeights[k - 1];
            int after = survey.dearestWeights[k + 1] - survey.dearestWeights[k];
            if (after > before) {
                return false;
            }
        }
        return true;
    }

    /** What has been told about vertices, colours and edges. */
    private static final class Graph {
        int vertices;
        int colours;
        int edges;
        /** Grows with each change, so that a survey can tell whether it is out of date. */
        int changes;
        final int[] limits = new int[MOST_COLOURS];
        final int[] firstEnds = new int[MOST_EDGES];
        final int[] secondEnds = new int[MOST_EDGES];
        final int[] hues = new int[MOST_EDGES];
        final int[] weights = new int[MOST_EDGES];

        Graph() {
            vertices = 1;
            colours = 1;
            limits[0] = FIRST_LIMIT;
        }

        void restart(int vertexCount, int colourCount) {
            vertices = vertexCount;
            colours = colourCount;
            edges = 0;
            Arrays.fill(limits, FIRST_LIMIT);
            changes++;
        }

        int addEdge(int a, int b, int hue, int weight) {
            int number = edges;
            firstEnds[number] = a;
            secondEnds[number] = b;
            hues[number] = hue;
            weights[number] = weight;
            edges++;
            changes++;
            return number;
        }

        void setLimit(int colour, int n) {
            limits[colour] = n;
            changes++;
        }

        void setWeight(int edge, int w) {
            weights[edge] = w;
            changes++;
        }

        boolean hasVertex(int vertex) {
            return within(vertex, 0, vertices - 1);
        }

        boolean hasColour(int colour) {
            return within(colour, 0, colours - 1);
        }

        boolean hasEdge(int edge) {
            return within(edge, 0, edges - 1);
        }

        boolean hasSet(int set) {
            return (set & ~allEdges()) == 0;
        }

        int allEdges() {
            return (1 << edges) - 1;
        }

        /** A row that names for each vertex the part it lies in, when there are no edges yet. */
        int loneParts() {
            int parts = 0;
            for (int vertex = 0; vertex < vertices; vertex++) {
                parts = withCell(parts, vertex, vertex);
            }
            return parts;
        }

        boolean joinsTwoParts(int parts, int edge) {
            return cell(parts, firstEnds[edge]) != cell(parts, secondEnds[edge]);
        }

        int partsJoinedBy(int parts, int edge) {
            int kept = cell(parts, firstEnds[edge]);
            int gone = cell(parts, secondEnds[edge]);
            int joined = parts;
            for (int vertex = 0; vertex < vertices; vertex++) {
                if (cell(parts, vertex) == gone) {
                    joined = withCell(joined, vertex, kept);
                }
            }
            return joined;
        }

        /** A row that tells for each colour how many edges of it may still come. */
        int fullRoom() {
            int room = 0;
            for (int colour = 0; colour < colours; colour++) {
                room = withCell(room, colour, limits[colour]);
            }
            return room;
        }

        boolean hasRoom(int room, int edge) {
            return cell(room, hues[edge]) > 0;
        }

        int roomAfter(int room, int edge) {
            return withCell(room, hues[edge], cell(room, hues[edge]) - 1);
        }
    }

    /** A way to call sets free. Everything else about a kind follows from its ranks. */
    private abstract static class Kind {
        final Graph graph;

        Kind(Graph graph) {
            this.graph = graph;
        }

        abstract int rankOf(int set);

        boolean allows(int set) {
            return rankOf(set) == Integer.bitCount(set);
        }

        /**
         * The edges whose loss leaves the rank as it is: in a set with just one circuit they are that
         * circuit, in a free set there are none.
         */
        int circuitWithin(int set) {
            int rank = rankOf(set);
            int circuit = 0;
            for (int edge = 0; edge < graph.edges; edge++) {
                int bit = 1 << edge;
                if ((set & bit) != 0 && rankOf(set & ~bit) == rank) {
                    circuit |= bit;
                }
            }
            return circuit;
        }

        int closureOf(int set) {
            int rank = rankOf(set);
            int closure = set;
            for (int edge = 0; edge < graph.edges; edge++) {
                int bit = 1 << edge;
                if (rankOf(set | bit) == rank) {
                    closure |= bit;
                }
            }
            return closure;
        }
    }

    /** Kind 0: a set is free if no edges of it make a ring. */
    private static final class RinglessKind extends Kind {
        RinglessKind(Graph graph) {
            super(graph);
        }

        int rankOf(int set) {
            int parts = graph.loneParts();
            int rank = 0;
            for (int edge = 0; edge < graph.edges; edge++) {
                if (hasBit(set, edge) && graph.joinsTwoParts(parts, edge)) {
                    parts = graph.partsJoinedBy(parts, edge);
                    rank++;
                }
            }
            return rank;
        }
    }

    /** Kind 1: a set is free if it has of no colour more edges than its limit. */
    private static final class LimitKind extends Kind {
        LimitKind(Graph graph) {
            super(graph);
        }

        int rankOf(int set) {
            int room = graph.fullRoom();
            int rank = 0;
            for (int edge = 0; edge < graph.edges; edge++) {
                if (hasBit(set, edge) && graph.hasRoom(room, edge)) {
                    room = graph.roomAfter(room, edge);
                    rank++;
                }
            }
            return rank;
        }
    }

    /** What a walk through all sets without rings finds; it walks again only after the graph has changed. */
    private static final class Survey {
        /** Instead of a row of room: the set has too many of some colour. */
        private static final int OVERFULL = -1;
        /** The place in the walk's rows of the set without edges, above the place of every edge. */
        private static final int START = MOST_EDGES;
        private static final int NO_CHANGES_SEEN = -1;

        private final Graph graph;
        private int changesSeen = NO_CHANGES_SEEN;
        int widestForests;
        int commonSets;
        int most;
        /** By the number of edges, from 0 to the most. */
        final int[] dearestSets = new int[MOST_VERTICES];
        final int[] dearestWeights = new int[MOST_VERTICES];
        private int widest;
        /** At place e what holds for the edges of the walked set from e up. */
        private final int[] partsFrom = new int[MOST_EDGES + 1];
        private final int[] roomFrom = new int[MOST_EDGES + 1];
        private final int[] weightFrom = new int[MOST_EDGES + 1];

        Survey(Graph graph) {
            this.graph = graph;
        }

        boolean hasSize(int k) {
            return within(k, 0, most);
        }

        void refresh() {
            if (changesSeen != graph.changes) {
                changesSeen = graph.changes;
                walk();
            }
        }

        /**
         * The sets come in the order of their numbers, so that of equals the least is met first. Where a
         * set has a ring, so have those that add edges below its lowest, which the step leaps over.
         */
        private void walk() {
            begin();
            int end = 1 << graph.edges;
            int set = 1;
            while (set < end) {
                int lowest = Integer.numberOfTrailingZeros(set);
                boolean forest = enter(lowest, placeAbove(set));
                if (forest) {
                    note(set, lowest);
                }
                set += forest ? 1 : 1 << lowest;
            }
        }

        private void begin() {
            partsFrom[START] = graph.loneParts();
            roomFrom[START] = graph.fullRoom();
            weightFrom[START] = 0;
            widest = 0;
            widestForests = 1;
            commonSets = 1;
            most = 0;
            dearestSets[0] = 0;
            dearestWeights[0] = 0;
        }

        private int placeAbove(int set) {
            int above = set & set - 1;
            return above == 0 ? START : Integer.numberOfTrailingZeros(above);
        }

        /** Whether the edge makes no ring with those from the place above; if so its own place is filled. */
        private boolean enter(int edge, int above) {
            if (!graph.joinsTwoParts(partsFrom[above], edge)) {
                return false;
            }
            partsFrom[edge] = graph.partsJoinedBy(partsFrom[above], edge);
            int room = roomFrom[above];
            boolean fits = room != OVERFULL && graph.hasRoom(room, edge);
            roomFrom[edge] = fits ? graph.roomAfter(room, edge) : OVERFULL;
            weightFrom[edge] = weightFrom[above] + graph.weights[edge];
            return true;
        }

        private void note(int set, int lowest) {
            int size = Integer.bitCount(set);
            noteForest(size);
            if (roomFrom[lowest] != OVERFULL) {
                noteCommon(set, size, weightFrom[lowest]);
            }
        }

        private void noteForest(int size) {
            if (size > widest) {
                widest = size;
                widestForests = 0;
            }
            if (size == widest) {
                widestForests++;
            }
        }

        private void noteCommon(int set, int size, int weight) {
            commonSets++;
            if (size > most || weight > dearestWeights[size]) {
                dearestSets[size] = set;
                dearestWeights[size] = weight;
            }
            most = Math.max(most, size);
        }
    }
}
