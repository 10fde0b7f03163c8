import java.util.List;
import java.util.function.Supplier;

/** What can be seen of an object, as texts that can be compared. Each view makes less than 512 calls. */
enum Seen {
    STATE {
        @Override
        String of(DecisionDiagrams x) {
            StringBuilder seen = new StringBuilder();
            add(seen, 6, x::count);
            for (int variable = 0; variable < x.count(0); variable++) {
                int number = variable;
                add(seen.append(" v"), 6, what -> x.variable(number, what));
            }
            add(seen.append(" order"), x.count(0), x::variableAt);
            add(seen.append(" width"), x.count(0), x::width);
            for (int f = 0; f < x.count(1); f++) {
                int number = f;
                add(seen.append(" f"), 5, what -> x.function(number, what));
            }
            for (int node = 0; node < x.count(2) + 2; node++) {
                int number = node;
                add(seen.append(" n"), 6, what -> x.node(number, what));
            }
            return seen.toString();
        }
    },

    NAMES {
        @Override
        String of(DecisionDiagrams x) {
            StringBuilder seen = new StringBuilder();
            for (String name : List.of("f", "g", "one", "x", "y", "c", "n", "maj", "odd", "")) {
                Texts.put(x, name);
                seen.append(answer(x::find)).append(' ');
            }
            return seen.append(Texts.order(x)).toString();
        }
    },

    WRITTEN {
        @Override
        String of(DecisionDiagrams x) {
            StringBuilder seen = new StringBuilder();
            String next = answer(() -> x.textByte(0));
            for (int index = 1; index < 500 && !next.startsWith("throws"); index++) {
                int number = index;
                seen.append(next).append(' ');
                next = answer(() -> x.textByte(number));
            }
            return seen.toString();
        }
    },

    REPORTED {
        @Override
        String of(DecisionDiagrams x) {
            return x.errorCode() + " at " + x.errorPosition();
        }
    },

    LENGTH {
        @Override
        String of(DecisionDiagrams x) {
            return answer(() -> x.append(0, 0, 0, 0, 0));
        }
    },

    BUFFER {
        @Override
        String of(DecisionDiagrams x) {
            return answer(x::script) + " " + REPORTED.of(x) + " " + inShort(x);
        }
    },

    HISTORY {
        @Override
        String of(DecisionDiagrams x) {
            StringBuilder seen = new StringBuilder(x.count(6) + " changes: " + inShort(x));
            String undone = answer(x::undo);
            for (int times = 0; times < 9 && !undone.startsWith("throws"); times++) {
                seen.append(" undo ").append(undone).append(": ").append(inShort(x));
                undone = answer(x::undo);
            }
            return seen.append(' ').append(undone).toString();
        }
    },

    SLOTS {
        @Override
        String of(DecisionDiagrams x) {
            String first = answer(() -> x.restore(0)) + inShort(x);
            return first + " " + answer(() -> x.restore(1)) + inShort(x);
        }
    },

    NEXT_CHANGE {
        @Override
        String of(DecisionDiagrams x) {
            return answer(() -> x.setCost(0, 77)) + x.count(6) + answer(() -> x.negate(0)) + x.count(6) + inShort(x);
        }
    };

    private interface Numbers {
        int at(int index);
    }

    abstract String of(DecisionDiagrams x);

    private static void add(StringBuilder seen, int count, Numbers numbers) {
        for (int index = 0; index < count; index++) {
            seen.append(' ').append(numbers.at(index));
        }
    }

    private static String inShort(DecisionDiagrams x) {
        StringBuilder seen = new StringBuilder();
        add(seen.append("order"), x.count(0), x::variableAt);
        add(seen.append(" costs"), x.count(0), variable -> x.variable(variable, 1));
        add(seen.append(" percents"), x.count(0), variable -> x.variable(variable, 2));
        add(seen.append(" roots"), x.count(1), f -> x.function(f, 0));
        add(seen.append(" models"), x.count(1), f -> x.function(f, 2));
        return seen.append(" size ").append(x.count(2)).toString();
    }

    static String answer(Supplier<Object> call) {
        try {
            return String.valueOf(call.get());
        } catch (RuntimeException e) {
            return "throws " + e.getClass().getSimpleName();
        }
    }
}
