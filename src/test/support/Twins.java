import java.util.function.Consumer;
import java.util.function.Supplier;

/**
 * Two objects that are told the same, but for calls on one of them that are to change nothing. The calls are
 * made once before anything was asked and once after, as an object may keep what it has found out.
 */
final class Twins {
    private Twins() {
    }

    static void stayAlike(Due due, String calls, Supplier<ColourForests> graph, Consumer<ColourForests> refused) {
        ColourForests unasked = graph.get();
        refused.accept(unasked);
        due.same("a graph after " + calls, Answers.of(unasked), Answers.of(graph.get()));
        ColourForests asked = graph.get();
        asked.check();
        refused.accept(asked);
        due.same("a graph that was asked before " + calls, Answers.of(asked), Answers.of(graph.get()));
    }
}
