import java.util.function.Consumer;
import java.util.function.Supplier;

/** Calls that are refused: the exception, and that nothing has changed behind it, as later calls show. */
final class Refused {
    private static final int[] FAR_BELOW = {-2, -256, Integer.MIN_VALUE};
    private static final int[] FAR_ABOVE = {256, 1 << 16, 1 << 30, Integer.MAX_VALUE};

    interface CallWith {
        void on(DecisionDiagrams x, int argument);
    }

    private Refused() {
    }

    /** Compares an object that has refused a call with one that has not been called, view by view. */
    static void refused(String what, Class<? extends RuntimeException> due, Supplier<DecisionDiagrams> world,
            Consumer<DecisionDiagrams> call) {
        for (Seen view : Seen.values()) {
            DecisionDiagrams touched = world.get();
            Check.raises(what, due, () -> call.accept(touched));
            Check.equal(what + " was refused; " + view, view.of(touched), view.of(world.get()));
        }
    }

    /** The same for the arguments just outside of a range, and some far away from it. */
    static void outside(String name, int first, int last, Class<? extends RuntimeException> due,
            Supplier<DecisionDiagrams> world, CallWith call) {
        refused(name + " " + (first - 1), due, world, x -> call.on(x, first - 1));
        refused(name + " " + (last + 1), due, world, x -> call.on(x, last + 1));
        for (int below : FAR_BELOW) {
            if (below < first) {
                Check.raises(name + " " + below, due, () -> call.on(world.get(), below));
            }
        }
        for (int above : FAR_ABOVE) {
            if (above > last) {
                Check.raises(name + " " + above, due, () -> call.on(world.get(), above));
            }
        }
    }

    /** A text that is refused empties the buffer and reports its error, and changes nothing else. */
    static void text(Supplier<DecisionDiagrams> world, String text, Consumer<DecisionDiagrams> reader, int code,
            int position) {
        for (Seen view : Seen.values()) {
            DecisionDiagrams touched = world.get();
            Texts.put(touched, text);
            Check.raises(text, IllegalArgumentException.class, () -> reader.accept(touched));
            DecisionDiagrams untouched = world.get();
            if (view == Seen.REPORTED) {
                Check.equal("the error of " + text, view.of(touched), code + " at " + position);
            } else {
                untouched.truncate(0);
                Check.equal(text + " was refused; " + view, view.of(touched), view.of(untouched));
            }
        }
    }
}
