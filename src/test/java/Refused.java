import java.util.function.Consumer;
import java.util.function.Supplier;

/**
 * Calls that must throw, and change nothing: afterwards the quay must answer a
 * long run of calls as its twin does, which was spared the call.
 */
final class Refused {
    private Refused() {
    }

    static void withIndex(String what, Supplier<QuayMesh> yard, Consumer<QuayMesh> call) {
        with(IndexOutOfBoundsException.class, what, yard, call);
    }

    static void withArgument(String what, Supplier<QuayMesh> yard, Consumer<QuayMesh> call) {
        with(IllegalArgumentException.class, what, yard, call);
    }

    static void withState(String what, Supplier<QuayMesh> yard, Consumer<QuayMesh> call) {
        with(IllegalStateException.class, what, yard, call);
    }

    private static void with(Class<?> due, String what, Supplier<QuayMesh> yard, Consumer<QuayMesh> call) {
        QuayMesh quay = yard.get();
        Check.exactly(what, due, () -> call.accept(quay));
        Check.that(what + " changed something", Probe.of(yard.get()).equals(Probe.of(quay)));
    }
}
