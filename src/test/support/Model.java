import java.util.ArrayList;
import java.util.Arrays;
import java.util.List;

/**
 * The document's words taken one by one: each answer is looked for among all sets, so that nothing here
 * rests on what the program rests on.
 */
final class Model {
    private static final class Edge {
        final int a;
        final int b;
        final int colour;
        int weight;

        Edge(int a, int b, int colour, int weight) {
            this.a = a;
            this.b = b;
            this.colour = colour;
            this.weight = weight;
        }
    }

    private int vertices;
    private int[] limits;
    private final List<Edge> edges = new ArrayList<>();
    private boolean stale;
    private boolean[][] free;
    private int[][] ranks;

    Model() {
        make(1, 1);
    }

    void make(int newVertices, int colours) {
        if (newVertices < 1 || newVertices > 8 || colours < 1 || colours > 6) {
            throw new IllegalArgumentException();
        }
        vertices = newVertices;
        limits = new int[colours];
        Arrays.fill(limits, 1);
        edges.clear();
        stale = true;
    }

    int edge(int a, int b, int colour, int weight) {
        boolean ends = a >= 0 && a < vertices && b >= 0 && b < vertices;
        boolean hasColour = colour >= 0 && colour < limits.length;
        if (!ends || !hasColour || weight < -9999 || weight > 9999 || edges.size() == 14) {
            return -1;
        }
        edges.add(new Edge(a, b, colour, weight));
        stale = true;
        return edges.size() - 1;
    }

    void limit(int colour, int n) {
        if (colour < 0 || colour >= limits.length) {
            throw new IndexOutOfBoundsException();
        }
        if (n < 0 || n > 14) {
            throw new IllegalArgumentException();
        }
        limits[colour] = n;
        stale = true;
    }

    void weigh(int edge, int w) {
        if (edge < 0 || edge >= edges.size()) {
            throw new IndexOutOfBoundsException();
        }
        if (w < -9999 || w > 9999) {
            throw new IllegalArgumentException();
        }
        edges.get(edge).weight = w;
    }

    int count(int what) {
        switch (what) {
            case 0:
                return vertices;
            case 1:
                return limits.length;
            case 2:
                return edges.size();
            case 3:
                return largestRingless();
            case 4:
                return commonSets();
            default:
                return -1;
        }
    }

    int rank(int kind, int set) {
        if (kind < 0 || kind > 1 || !isSet(set)) {
            return -1;
        }
        refresh();
        return ranks[kind][set];
    }

    int free(int kind, int set) {
        if (kind < 0 || kind > 2 || !isSet(set)) {
            return -1;
        }
        refresh();
        boolean answer = kind == 2 ? isCommon(set) : free[kind][set];
        return answer ? 1 : 0;
    }

    int circuit(int kind, int set, int edge) {
        if (kind < 0 || kind > 1 || edge < 0 || edge >= edges.size() || !isSet(set)) {
            return -1;
        }
        refresh();
        if (!free[kind][set] || (set & 1 << edge) != 0) {
            return -1;
        }
        int both = set | 1 << edge;
        int found = 0;
        int circuits = 0;
        for (int part = both; part > 0; part = part - 1 & both) {
            if (isCircuit(kind, part)) {
                found = part;
                circuits++;
            }
        }
        if (circuits > 1) {
            throw new IllegalStateException("the model is wrong: two circuits");
        }
        return found;
    }

    int closure(int kind, int set) {
        if (kind < 0 || kind > 1 || !isSet(set)) {
            return -1;
        }
        refresh();
        int closure = 0;
        for (int edge = 0; edge < edges.size(); edge++) {
            if (ranks[kind][set | 1 << edge] == ranks[kind][set]) {
                closure |= 1 << edge;
            }
        }
        return closure;
    }

    int most() {
        refresh();
        int most = 0;
        for (int set = 0; set < sets(); set++) {
            if (isCommon(set)) {
                most = Math.max(most, Integer.bitCount(set));
            }
        }
        return most;
    }

    int dearest(int k) {
        refresh();
        int best = -1;
        for (int set = 0; set < sets(); set++) {
            if (Integer.bitCount(set) == k && isCommon(set) && (best < 0 || weightOf(set) > weightOf(best))) {
                best = set;
            }
        }
        return best;
    }

    int weight(int k) {
        int best = dearest(k);
        if (best < 0) {
            throw new IllegalArgumentException();
        }
        return weightOf(best);
    }

    int heaviest() {
        refresh();
        int best = 0;
        for (int set = 0; set < sets(); set++) {
            if (!isCommon(set)) {
                continue;
            }
            int gain = weightOf(set) - weightOf(best);
            if (gain > 0 || gain == 0 && Integer.bitCount(set) < Integer.bitCount(best)) {
                best = set;
            }
        }
        return Integer.bitCount(best);
    }

    int witness(int way) {
        if (way < 0 || way > 1) {
            return -1;
        }
        int most = most();
        int all = sets() - 1;
        int least = all;
        int greatest = 0;
        for (int set = 0; set <= all; set++) {
            if (ranks[0][set] + ranks[1][all & ~set] == most) {
                least &= set;
                greatest |= set;
            }
        }
        return way == 0 ? least : greatest;
    }

    int check() {
        return 1;
    }

    private int sets() {
        return 1 << edges.size();
    }

    private boolean isSet(int set) {
        return set >= 0 && set < sets();
    }

    private boolean isCommon(int set) {
        return free[0][set] && free[1][set];
    }

    private int weightOf(int set) {
        int sum = 0;
        for (int edge = 0; edge < edges.size(); edge++) {
            sum += (set >> edge & 1) * edges.get(edge).weight;
        }
        return sum;
    }

    private int largestRingless() {
        refresh();
        int[] bySize = new int[15];
        int largest = 0;
        for (int set = 0; set < sets(); set++) {
            if (free[0][set]) {
                bySize[Integer.bitCount(set)]++;
                largest = Math.max(largest, Integer.bitCount(set));
            }
        }
        return bySize[largest];
    }

    private int commonSets() {
        refresh();
        int count = 0;
        for (int set = 0; set < sets(); set++) {
            count += isCommon(set) ? 1 : 0;
        }
        return count;
    }

    private boolean isCircuit(int kind, int set) {
        if (free[kind][set]) {
            return false;
        }
        for (int edge = 0; edge < edges.size(); edge++) {
            if ((set >> edge & 1) == 1 && !free[kind][set & ~(1 << edge)]) {
                return false;
            }
        }
        return true;
    }

    private void refresh() {
        if (!stale) {
            return;
        }
        stale = false;
        free = new boolean[2][sets()];
        ranks = new int[2][sets()];
        for (int set = 0; set < sets(); set++) {
            free[0][set] = !hasRing(set);
            free[1][set] = !hasTooMany(set);
            ranks[0][set] = largestWithin(0, set);
            ranks[1][set] = largestWithin(1, set);
        }
    }

    private int largestWithin(int kind, int set) {
        if (free[kind][set]) {
            return Integer.bitCount(set);
        }
        int largest = 0;
        for (int edge = 0; edge < edges.size(); edge++) {
            if ((set >> edge & 1) == 1) {
                largest = Math.max(largest, ranks[kind][set & ~(1 << edge)]);
            }
        }
        return largest;
    }

    /** Edges that end where no other does are in no ring; what is left without them has one. */
    private boolean hasRing(int set) {
        int left = set;
        for (int edge = 0; edge < edges.size(); edge++) {
            int before = left;
            left = withoutLooseEnds(left);
            if (left == before) {
                break;
            }
        }
        return left != 0;
    }

    private int withoutLooseEnds(int set) {
        int[] ends = new int[vertices];
        for (int edge = 0; edge < edges.size(); edge++) {
            if ((set >> edge & 1) == 1) {
                ends[edges.get(edge).a]++;
                ends[edges.get(edge).b]++;
            }
        }
        int left = set;
        for (int edge = 0; edge < edges.size(); edge++) {
            if (ends[edges.get(edge).a] == 1 || ends[edges.get(edge).b] == 1) {
                left &= ~(1 << edge);
            }
        }
        return left;
    }

    private boolean hasTooMany(int set) {
        int[] many = new int[limits.length];
        for (int edge = 0; edge < edges.size(); edge++) {
            many[edges.get(edge).colour] += set >> edge & 1;
        }
        for (int colour = 0; colour < limits.length; colour++) {
            if (many[colour] > limits[colour]) {
                return true;
            }
        }
        return false;
    }
}
