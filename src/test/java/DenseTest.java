import java.lang.reflect.InvocationTargetException;
import java.lang.reflect.Method;
import java.util.ArrayList;
import java.util.Arrays;
import java.util.List;
import java.util.Random;

/**
 * All promises at the limits of room: 12 functions of 8 variables without any order in their values. An object is made
 * anew for each row of questions, so that none of them is its 513th call.
 */
final class DenseTest {
    private static final int MOST_NODES_OF_A_FUNCTION = 77;
    private static final int MANY_NODES = 560;
    private static final int QUESTIONS_OF_AN_OBJECT = 250;
    /** Seeds with which the diagram is about as large as can be. */
    private static final int[] SEEDS = {150, 202, 1072};

    private record Question(String name, int... arguments) {
    }

    private final Random random;
    private final List<String> scripts = new ArrayList<>();
    private final int swapped;
    private final Reference reference = new Reference();

    private DenseTest(int seed) {
        random = new Random(seed);
        swapped = seed % 7;
        for (String name : new String[] {"i", "j", "k"}) {
            scripts.add("let half " + choices("bcd") + ";");
            scripts.add("let rest " + choices("bcd") + ";");
            scripts.add("let " + name + " if(a,half,rest);drop half;drop rest;");
        }
        make(reference);
    }

    public static void main(String[] args) {
        for (int seed : SEEDS) {
            new DenseTest(seed).compare();
        }
        Check.finish("DenseTest");
    }

    /** A text has room for half of the values of such a function. */
    private String choices(String variables) {
        if (variables.isEmpty()) {
            return sum();
        }
        String rest = variables.substring(1);
        return "if(" + variables.charAt(0) + "," + choices(rest) + "," + choices(rest) + ")";
    }

    /** Each function of e, f, g and h is a sum of products in just one way. */
    private String sum() {
        StringBuilder sum = new StringBuilder(random.nextBoolean() ? "1" : "0");
        for (int product = 1; product < 16; product++) {
            if (random.nextBoolean()) {
                char sign = '^';
                for (int factor = 0; factor < 4; factor++) {
                    if ((product >> factor & 1) == 1) {
                        sum.append(sign).append((char) ('e' + factor));
                        sign = '&';
                    }
                }
            }
        }
        return sum.toString();
    }

    private static int call(Object object, String name, int... arguments) {
        Class<?>[] types = new Class<?>[arguments.length];
        Arrays.fill(types, int.class);
        try {
            Method method = object.getClass().getMethod(name, types);
            return (int) method.invoke(object, Arrays.stream(arguments).boxed().toArray());
        } catch (IllegalAccessException | NoSuchMethodException | InvocationTargetException e) {
            throw new IllegalStateException(name, e);
        }
    }

    private static void put(Object object, String text) {
        for (int[] part : Texts.appends(text)) {
            call(object, "append", part);
        }
        call(object, "truncate", text.length());
    }

    /** Makes three such functions and nine combinations of them, and another order. */
    private void make(Object object) {
        put(object, "vars a b c d e f g h;");
        call(object, "load");
        for (String script : scripts) {
            put(object, script);
            call(object, "script");
        }
        call(object, "combine", 2, 0, 1);
        call(object, "combine", 2, 0, 2);
        call(object, "combine", 2, 1, 2);
        call(object, "combine", 4, 3, 2);
        call(object, "combine", 0, 0, 1);
        call(object, "combine", 1, 1, 2);
        call(object, "combine", 5, 2, 0);
        call(object, "choose", 0, 1, 2);
        call(object, "choose", 2, 0, 1);
        call(object, "swap", swapped);
    }

    private void ask(List<Question> questions) {
        for (int from = 0; from < questions.size(); from += QUESTIONS_OF_AN_OBJECT) {
            DecisionDiagrams x = new DecisionDiagrams();
            make(x);
            int end = Math.min(questions.size(), from + QUESTIONS_OF_AN_OBJECT);
            for (Question question : questions.subList(from, end)) {
                Check.equal(question.name() + Arrays.toString(question.arguments()),
                        call(x, question.name(), question.arguments()),
                        call(reference, question.name(), question.arguments()));
            }
        }
    }

    private void compare() {
        int size = reference.count(2);
        Check.report(size > MANY_NODES, "the diagram has " + size + " nodes");
        int largest = 0;
        for (int f = 0; f < 12; f++) {
            largest = Math.max(largest, reference.function(f, 1));
        }
        Check.equal("the largest function", largest, MOST_NODES_OF_A_FUNCTION);
        List<Question> questions = new ArrayList<>();
        add(questions, "count", 7);
        for (int node = 0; node < size + 2; node += 1 + node / 20) {
            add(questions, "node", node, 6);
        }
        for (int variable = 0; variable < 8; variable++) {
            add(questions, "variable", variable, 6);
            add(questions, "sizeIf", variable, 8);
        }
        add(questions, "width", 8);
        add(questions, "bestLevel", 8);
        for (int f = 0; f < 12; f++) {
            addFunction(questions, f);
        }
        ask(questions);
        askForTexts();
        ask(List.of(new Question("siftAll"), new Question("variableAt", 0), new Question("node", 300, 3),
                new Question("function", 11, 1), new Question("undo"), new Question("undo")));
    }

    /** Asks a call for all last arguments from 0 on. */
    private static void add(List<Question> questions, String name, int count) {
        for (int last = 0; last < count; last++) {
            questions.add(new Question(name, last));
        }
    }

    private static void add(List<Question> questions, String name, int first, int count) {
        for (int last = 0; last < count; last++) {
            questions.add(new Question(name, first, last));
        }
    }

    private static void addFunction(List<Question> questions, int f) {
        add(questions, "function", f, 4);
        add(questions, "paths", f, 2);
        add(questions, "shortest", f, 2);
        add(questions, "polarity", f, 8);
        add(questions, "influence", f, 8);
        add(questions, "pairs", f, 12);
        add(questions, "common", f, 12);
        add(questions, "difference", f, 12);
        questions.add(new Question("longest", f));
        questions.add(new Question("twin", f));
        questions.add(new Question("sizeOf", f % 6, f, 11 - f));
    }

    private void askForTexts() {
        for (int f = 0; f < 12; f += 5) {
            int length = reference.writeFunction(f);
            for (int from = 0; from < length; from += QUESTIONS_OF_AN_OBJECT - 1) {
                List<Question> questions = new ArrayList<>(List.of(new Question("writeFunction", f)));
                for (int index = from; index < Math.min(length, from + QUESTIONS_OF_AN_OBJECT - 1); index++) {
                    questions.add(new Question("textByte", index));
                }
                ask(questions);
            }
        }
    }
}
