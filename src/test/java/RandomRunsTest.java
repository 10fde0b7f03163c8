import java.lang.reflect.InvocationTargetException;
import java.lang.reflect.Method;
import java.util.ArrayList;
import java.util.Arrays;
import java.util.List;
import java.util.Random;

/** All promises: runs of up to 512 calls, from fixed seeds, answer what the class Reference answers. */
final class RandomRunsTest {
    private static final int RUNS = 1500;
    private static final int CALLS = 512;
    private static final int MOST_CALLS_OF_A_TEXT = 40;

    /** Behind the name of each call, the kinds of its arguments; see the method argument. */
    private static final List<String> QUERIES = List.of("errorCode", "errorPosition", "count w", "variable v w",
            "variableAt v", "function f w", "node n w", "value f a", "model f i", "support f", "polarity f v",
            "influence f v", "paths f b", "shortest f b", "longest f", "cheapest f", "cheapestModel f", "chance f",
            "same f f", "implies f f", "difference f f", "twin f", "common f f", "pairs f f", "sizeOf w f f",
            "sizeIf v v", "bestLevel v", "width v", "writeFunction f", "writeOrder", "textByte t");
    private static final List<String> CHANGES = List.of("combine w f f", "combine w f f", "choose f f f", "negate f",
            "restrict f v z", "quantify f v z", "compose f v f", "drop f", "swap v", "move v v", "sift v", "siftAll",
            "setCost v p", "setPercent v p", "undo", "undo", "save b", "restore b");
    private static final int[] FAR = {Integer.MIN_VALUE, Integer.MAX_VALUE, -1, -2, 256, 1 << 30, 1 << 31 | 1};

    private final Random random;
    private final RandomTexts texts;
    private final DecisionDiagrams x = new DecisionDiagrams();
    private final Reference reference = new Reference();
    private final List<String> calls = new ArrayList<>();
    private int lengthWritten;

    private RandomRunsTest(int seed) {
        random = new Random(seed);
        texts = new RandomTexts(random);
    }

    public static void main(String[] args) throws ReflectiveOperationException {
        for (int seed = 1; seed <= RUNS; seed++) {
            RandomRunsTest run = new RandomRunsTest(seed);
            boolean agrees = run.agrees();
            int from = Math.max(0, run.calls.size() - 30);
            Check.report(agrees, agrees ? "" : "run " + seed + ": "
                    + String.join("\n  ", run.calls.subList(from, run.calls.size())));
        }
        Check.finish("RandomRunsTest");
    }

    private boolean agrees() throws ReflectiveOperationException {
        while (calls.size() < CALLS - MOST_CALLS_OF_A_TEXT) {
            if (!step()) {
                return false;
            }
        }
        return true;
    }

    private boolean step() throws ReflectiveOperationException {
        int kind = random.nextInt(60);
        if (kind == 0) {
            return text(texts.system(), "load");
        } else if (kind < 4) {
            return text(texts.script(reference.variableNames(), reference.functionNames()), "script");
        } else if (kind == 4) {
            return text(texts.name(), "find");
        } else if (kind == 5) {
            return looseBytes();
        }
        return one(kind < 18 ? CHANGES : QUERIES);
    }

    private boolean one(List<String> from) throws ReflectiveOperationException {
        String[] call = from.get(random.nextInt(from.size())).split(" ");
        if (call[0].equals("restore") && random.nextInt(3) > 0) {
            return true;
        }
        Object[] arguments = new Object[call.length - 1];
        for (int i = 0; i < arguments.length; i++) {
            arguments[i] = argument(call[i + 1].charAt(0));
        }
        return call(call[0], arguments);
    }

    private Object argument(char kind) {
        if (kind == 'z') {
            return random.nextBoolean();
        }
        if (random.nextInt(60) == 0) {
            return FAR[random.nextInt(FAR.length)];
        }
        int bound = switch (kind) {
            case 'f' -> reference.functionNames().size();
            case 'v' -> reference.variableNames().size();
            case 'n' -> reference.count(2) + 2;
            case 'w' -> 6;
            case 'a' -> 1 << reference.variableNames().size();
            case 'i' -> 1 + (1 << reference.variableNames().size()) / 2;
            case 'p' -> 99;
            case 'b' -> 2;
            default -> lengthWritten;
        };
        int edge = random.nextInt(30);
        return edge < 3 ? bound - 1 + edge : edge == 3 ? -1 : random.nextInt(Math.max(1, bound));
    }

    private boolean looseBytes() throws ReflectiveOperationException {
        boolean right = call("append", random.nextInt(), random.nextInt(), random.nextInt(), -1, 0)
                && call("truncate", random.nextInt(700) - 20);
        return right && call(List.of("find", "script", "load", "errorCode").get(random.nextInt(4)));
    }

    private boolean text(String text, String reader) throws ReflectiveOperationException {
        boolean right = call("truncate", 0);
        for (int[] part : Texts.appends(text)) {
            right = right && call("append", part[0], part[1], part[2], part[3], part[4]);
        }
        if (random.nextInt(15) == 0) {
            right = right && call("append", 0x20202020, 0x20202020, 0x20202020, 0x20202020, 0x20202020);
        }
        right = right && call("truncate", text.length());
        calls.add("  \"" + text + "\"");
        return right && call(reader) && call("errorCode") && call("errorPosition");
    }

    private boolean call(String name, Object... arguments) throws ReflectiveOperationException {
        Class<?>[] types = new Class<?>[arguments.length];
        for (int i = 0; i < types.length; i++) {
            types[i] = arguments[i] instanceof Boolean ? boolean.class : int.class;
        }
        String got = answer(x, DecisionDiagrams.class.getMethod(name, types), arguments);
        String due = answer(reference, Reference.class.getMethod(name, types), arguments);
        calls.add(name + Arrays.toString(arguments) + " answered " + got + ", due is " + due);
        if (name.startsWith("write") && got.matches("[0-9]+")) {
            lengthWritten = Integer.parseInt(got);
        }
        return got.equals(due);
    }

    private static String answer(Object object, Method method, Object... arguments) throws IllegalAccessException {
        try {
            return String.valueOf(method.invoke(object, arguments));
        } catch (InvocationTargetException e) {
            return e.getCause().getClass().getName();
        }
    }
}
