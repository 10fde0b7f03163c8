import java.util.function.Supplier;

/** The numbers that many calls take: the first and the last that exist, and the ones just outside. */
final class Edges {
    private static final Class<IndexOutOfBoundsException> NONE_SUCH = IndexOutOfBoundsException.class;

    private Edges() {
    }

    /** The first and the last function where there are 1, 4, 11 and 12. */
    static void functionsThere(String name, Refused.CallWith call) {
        functionsThereToAdd(name, call);
        passes(name, 0, Worlds::full, call);
        passes(name, 11, Worlds::full, call);
    }

    /** The same for calls that add a function. */
    static void functionsThereToAdd(String name, Refused.CallWith call) {
        passes(name, 0, Worlds::one, call);
        passes(name, 0, Worlds::busy, call);
        passes(name, 3, Worlds::busy, call);
        passes(name, 0, Worlds::eleven, call);
        passes(name, 10, Worlds::eleven, call);
    }

    /** No function where there are 0, 1, 4, 11 and 12. */
    static void noFunction(String name, Refused.CallWith call) {
        Refused.outside(name, 0, -1, NONE_SUCH, Worlds::none, call);
        Refused.outside(name, 0, 0, NONE_SUCH, Worlds::one, call);
        Refused.outside(name, 0, 3, NONE_SUCH, Worlds::busy, call);
        Refused.outside(name, 0, 10, NONE_SUCH, Worlds::eleven, call);
        Refused.outside(name, 0, 11, NONE_SUCH, Worlds::full, call);
    }

    /** The first and the last variable, or level, where there are 1, 4 and 8. */
    static void variablesThere(String name, Refused.CallWith call) {
        passes(name, 0, Worlds::one, call);
        passes(name, 0, Worlds::busy, call);
        passes(name, 3, Worlds::busy, call);
        passes(name, 0, Worlds::eight, call);
        passes(name, 7, Worlds::eight, call);
    }

    /** No variable, or level, where there are 1, 4 and 8. */
    static void noVariable(String name, Refused.CallWith call) {
        Refused.outside(name, 0, 0, NONE_SUCH, Worlds::one, call);
        Refused.outside(name, 0, 3, NONE_SUCH, Worlds::busy, call);
        Refused.outside(name, 0, 7, NONE_SUCH, Worlds::eight, call);
    }

    /** The first and the last number of another argument that has the same range everywhere. */
    static void inside(String name, int first, int last, Refused.CallWith call) {
        passes(name, first, Worlds::busy, call);
        passes(name, last, Worlds::busy, call);
    }

    static void outside(String name, int first, int last, Refused.CallWith call) {
        Refused.outside(name, first, last, IllegalArgumentException.class, Worlds::busy, call);
    }

    static void passes(String name, int argument, Supplier<DecisionDiagrams> world, Refused.CallWith call) {
        Check.raises(name + " " + argument, null, () -> call.on(world.get(), argument));
    }

    /** A 13th function is refused, an 12th is not. */
    static void noThirteenth(Refused.CallWith call) {
        passes("a 12th function, of", 10, Worlds::eleven, call);
        Refused.refused("a 13th function", IllegalStateException.class, Worlds::full, x -> call.on(x, 0));
        Refused.refused("a 13th function", IllegalStateException.class, Worlds::full, x -> call.on(x, 11));
    }
}
