import java.util.ArrayList;
import java.util.List;

/**
 * What an object answers, as one row: an object on which a call has changed nothing answers as one on which
 * that call was never made. To ask for the row takes at most some 370 calls, and changes the object: the graph is
 * filled up with edges, so that the limits of colours without edges show, and the number that the next edge
 * gets; then edge by edge is made light, so that the weights of the lighter ones show.
 */
final class Answers {
    private static final long THROWN = Long.MIN_VALUE;
    private static final int ALL_SETS_UP_TO = 4;
    private static final int LARGEST_SIZE = 8;

    private final ColourForests x;
    private final int edges;
    private final List<Long> row = new ArrayList<>();

    private Answers(ColourForests x) {
        this.x = x;
        this.edges = x.count(2);
    }

    static List<Long> of(ColourForests x) {
        Answers answers = new Answers(x);
        answers.askCounts();
        answers.askSizes();
        for (int set : answers.sets()) {
            answers.askSet(set);
        }
        answers.fillUp();
        answers.askWeights();
        return answers.row;
    }

    private void add(long answer) {
        row.add(answer);
    }

    private void askCounts() {
        for (int what = 0; what <= 4; what++) {
            add(x.count(what));
        }
        add(x.most());
        add(x.heaviest());
        add(x.witness(0));
        add(x.witness(1));
        add(x.check());
    }

    private void askSizes() {
        for (int k = 0; k <= LARGEST_SIZE; k++) {
            add(x.dearest(k));
            add(weightOrThrown(k));
        }
    }

    private long weightOrThrown(int k) {
        try {
            return x.weight(k);
        } catch (IllegalArgumentException e) {
            return THROWN;
        }
    }

    /** All sets of a small graph; of a greater one the first edges, and each edge alone. */
    private List<Integer> sets() {
        List<Integer> sets = new ArrayList<>();
        if (edges <= ALL_SETS_UP_TO) {
            for (int set = 0; set < 1 << edges; set++) {
                sets.add(set);
            }
            return sets;
        }
        for (int edge = 0; edge < edges; edge++) {
            sets.add((1 << edge) - 1);
            sets.add(1 << edge);
        }
        sets.add((1 << edges) - 1);
        return sets;
    }

    private void askSet(int set) {
        int next = Integer.numberOfTrailingZeros(~set);
        for (int kind = 0; kind <= 1; kind++) {
            add(x.rank(kind, set));
            add(x.closure(kind, set));
            add(x.circuit(kind, set, next));
        }
        for (int kind = 0; kind <= 2; kind++) {
            add(x.free(kind, set));
        }
    }

    private void fillUp() {
        int colours = x.count(1);
        for (int n = edges; n <= 14; n++) {
            add(x.edge(0, x.count(0) - 1, n % colours, n));
        }
        for (int colour = 0; colour < colours; colour++) {
            add(x.rank(1, ofColour(colour, colours)));
        }
        add(x.most());
        add(x.count(4));
        add(x.dearest(1));
    }

    private void askWeights() {
        for (int colour = 0; colour < x.count(1); colour++) {
            x.limit(colour, 14);
        }
        for (int n = 0; n < 14; n++) {
            int dearest = x.dearest(1);
            add(dearest);
            add(weightOrThrown(1));
            if (dearest > 0) {
                x.weigh(Integer.numberOfTrailingZeros(dearest), -9999);
            }
        }
    }

    /** The edges that filled the graph up and are of one colour. */
    private int ofColour(int colour, int colours) {
        int set = 0;
        for (int n = edges; n < 14; n++) {
            set |= n % colours == colour ? 1 << n : 0;
        }
        return set;
    }
}
