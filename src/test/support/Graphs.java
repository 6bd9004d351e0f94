/** Graphs that several tests ask. Each call makes a new object, as one is used for at most 512 calls. */
final class Graphs {
    /** How many graphs there are for small to make; each has at most seven edges. */
    static final int SMALL = 9;

    private Graphs() {
    }

    static ColourForests made(int vertices, int colours) {
        ColourForests x = new ColourForests();
        x.make(vertices, colours);
        return x;
    }

    /** A path of three edges, colours 0, 0 and 1, and one edge beside the last, colour 0. */
    static ColourForests path() {
        ColourForests x = made(4, 2);
        x.edge(0, 1, 0, 3);
        x.edge(1, 2, 0, 5);
        x.edge(2, 3, 1, -4);
        x.edge(2, 3, 0, 9);
        return x;
    }

    /** A ring of four (edges 0 to 3), a way across (4), an edge beside edge 0 (5) and a loop (6). */
    static ColourForests square() {
        ColourForests x = made(5, 3);
        x.edge(0, 1, 0, 1);
        x.edge(1, 2, 0, 2);
        x.edge(2, 3, 1, 3);
        x.edge(3, 0, 1, 4);
        x.edge(0, 2, 2, 5);
        x.edge(1, 0, 0, 6);
        x.edge(3, 3, 1, 7);
        x.limit(0, 2);
        x.limit(2, 0);
        return x;
    }

    /** Three edges side by side, each of a colour of its own, and behind them three in a row of one colour. */
    static ColourForests bundleAndTail() {
        ColourForests x = made(6, 4);
        for (int n = 0; n < 3; n++) {
            x.edge(0, 1, n, 1);
        }
        for (int n = 0; n < 3; n++) {
            x.edge(n + 2, n + 1, 3, 1);
        }
        return x;
    }

    /** So many edges of colour 0, each behind the one before. */
    static ColourForests row(int edges) {
        ColourForests x = made(8, 1);
        for (int n = 0; n < edges; n++) {
            x.edge(n, n + 1, 0, 0);
        }
        return x;
    }

    /** So many edges of colour 0 that make one ring; a ring of one edge joins a vertex with itself. */
    static ColourForests ring(int edges) {
        ColourForests x = made(8, 1);
        for (int n = 0; n < edges; n++) {
            x.edge(n, (n + 1) % edges, 0, 0);
        }
        return x;
    }

    /** So many edges of colour 0, all between two vertices. */
    static ColourForests sideBySide(int edges) {
        ColourForests x = made(2, 1);
        for (int n = 0; n < edges; n++) {
            x.edge(n % 2, 1 - n % 2, 0, 0);
        }
        return x;
    }

    /** So many edges of colour 0, all of one vertex with itself. */
    static ColourForests loops(int edges) {
        ColourForests x = made(1, 1);
        for (int n = 0; n < edges; n++) {
            x.edge(0, 0, 0, 0);
        }
        return x;
    }

    static ColourForests withLimit(ColourForests x, int colour, int n) {
        x.limit(colour, n);
        return x;
    }

    static ColourForests small(int which) {
        switch (which) {
            case 0:
                return new ColourForests();
            case 1:
                return path();
            case 2:
                return withLimit(path(), 0, 2);
            case 3:
                return square();
            case 4:
                return bundleAndTail();
            case 5:
                return withLimit(ring(6), 0, 5);
            case 6:
                return withLimit(row(4), 0, 0);
            case 7:
                return loops(3);
            default:
                return sideBySide(4);
        }
    }

    static int allEdges(ColourForests x) {
        return (1 << x.count(2)) - 1;
    }
}
