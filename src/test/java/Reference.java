import java.util.ArrayDeque;
import java.util.ArrayList;
import java.util.Arrays;
import java.util.Deque;
import java.util.HashMap;
import java.util.HashSet;
import java.util.LinkedHashMap;
import java.util.List;
import java.util.Map;
import java.util.NoSuchElementException;
import java.util.Set;

/**
 * The document written down a second time, as plainly as can be and with no care for speed or room, so that random runs
 * can be compared with it. Its diagram grows from whole decision trees, its formulas are asked for one assignment at a
 * time.
 */
final class Reference {
    /** A node of the diagram; a leaf has variable NONE. */
    private static final class Node {
        final int variable;
        final Node low;
        final Node high;
        int number;

        Node(int variable, Node low, Node high) {
            this.variable = variable;
            this.low = low;
            this.high = high;
        }
    }

    record Function(String name, boolean[] values) {
    }

    static final class State {
        List<String> names = new ArrayList<>();
        List<Function> functions = new ArrayList<>();
        List<Integer> order = new ArrayList<>();
        List<Integer> costs = new ArrayList<>();
        List<Integer> percents = new ArrayList<>();

        State copy() {
            State copy = new State();
            copy.names.addAll(names);
            copy.functions.addAll(functions);
            copy.order.addAll(order);
            copy.costs.addAll(costs);
            copy.percents.addAll(percents);
            return copy;
        }

        int assignments() {
            return 1 << names.size();
        }

        int named(String name) {
            for (int f = 0; f < functions.size(); f++) {
                if (name.equals(functions.get(f).name())) {
                    return f;
                }
            }
            return DecisionDiagrams.NONE;
        }

        void add(String name, java.util.function.IntPredicate formula) {
            boolean[] values = new boolean[assignments()];
            for (int a = 0; a < values.length; a++) {
                values[a] = formula.test(a);
            }
            functions.add(new Function(name, values));
        }

        void move(int variable, int level) {
            order.remove((Integer) variable);
            order.add(level, variable);
        }

        int size() {
            return new Drawing(this).numbered.size() - 2;
        }

        int sizeIf(int variable, int level) {
            State other = copy();
            other.move(variable, level);
            return other.size();
        }

        int bestLevel(int variable) {
            int least = Integer.MAX_VALUE;
            for (int level = 0; level < order.size(); level++) {
                least = Math.min(least, sizeIf(variable, level));
            }
            int present = order.indexOf(variable);
            if (sizeIf(variable, present) == least) {
                return present;
            }
            for (int level = 0; level < order.size(); level++) {
                if (sizeIf(variable, level) == least) {
                    return level;
                }
            }
            throw new AssertionError();
        }

        void siftAll() {
            Drawing drawing = new Drawing(this);
            List<Integer> sequence = new ArrayList<>();
            for (int v = 0; v < names.size(); v++) {
                sequence.add(v);
            }
            sequence.sort((v, w) -> Integer.compare(drawing.testing(w), drawing.testing(v)));
            for (int v : sequence) {
                move(v, bestLevel(v));
            }
        }
    }

    /** The reduced diagram of a state. */
    private static final class Drawing {
        final State state;
        final List<Node> numbered = new ArrayList<>();
        final List<Node> roots = new ArrayList<>();
        private final Map<List<Object>, Node> unique = new HashMap<>();

        Drawing(State state) {
            this.state = state;
            numbered.add(new Node(DecisionDiagrams.NONE, null, null));
            numbered.add(new Node(DecisionDiagrams.NONE, null, null));
            numbered.get(1).number = 1;
            for (Function f : state.functions) {
                roots.add(tree(f.values(), 0, 0));
            }
            for (Node root : roots) {
                number(root);
            }
        }

        private Node tree(boolean[] values, int level, int assignment) {
            if (level == state.order.size()) {
                return numbered.get(values[assignment] ? 1 : 0);
            }
            int variable = state.order.get(level);
            Node low = tree(values, level + 1, assignment);
            Node high = tree(values, level + 1, assignment | 1 << variable);
            if (low == high) {
                return low;
            }
            return unique.computeIfAbsent(List.of(variable, low, high), key -> new Node(variable, low, high));
        }

        private void number(Node node) {
            if (numbered.contains(node)) {
                return;
            }
            node.number = numbered.size();
            numbered.add(node);
            number(node.low);
            number(node.high);
        }

        Set<Node> reached(int f) {
            Set<Node> reached = new HashSet<>();
            Deque<Node> open = new ArrayDeque<>(List.of(roots.get(f)));
            while (!open.isEmpty()) {
                Node node = open.pop();
                if (reached.add(node) && node.low != null) {
                    open.push(node.low);
                    open.push(node.high);
                }
            }
            return reached;
        }

        int innerReached(int f) {
            return (int) reached(f).stream().filter(node -> node.low != null).count();
        }

        int testing(int variable) {
            return (int) numbered.stream().filter(node -> node.low != null && node.variable == variable).count();
        }

        /** The inner nodes on each path from a node to a leaf. */
        List<Integer> paths(Node node, int leaf) {
            List<Integer> lengths = new ArrayList<>();
            if (node.low == null) {
                if (node.number == leaf) {
                    lengths.add(0);
                }
                return lengths;
            }
            paths(node.low, leaf).forEach(length -> lengths.add(length + 1));
            paths(node.high, leaf).forEach(length -> lengths.add(length + 1));
            return lengths;
        }

        double chance(Node node) {
            if (node.low == null) {
                return node.number == 1 ? 1.0 : 0.0;
            }
            double p = (double) (int) state.percents.get(node.variable) / 100.0;
            return (1.0 - p) * chance(node.low) + p * chance(node.high);
        }

        void meet(Node a, Node b, Set<List<Node>> met) {
            if (!met.add(List.of(a, b)) || a.low == null && b.low == null) {
                return;
            }
            int level = Math.min(level(a), level(b));
            boolean first = level(a) == level;
            boolean second = level(b) == level;
            meet(first ? a.low : a, second ? b.low : b, met);
            meet(first ? a.high : a, second ? b.high : b, met);
        }

        private int level(Node node) {
            return node.low == null ? Integer.MAX_VALUE : state.order.indexOf(node.variable);
        }
    }

    private final List<Integer> buffer = new ArrayList<>();
    private State state;
    private final Deque<State> past = new ArrayDeque<>();
    private final Map<Integer, State> saved = new LinkedHashMap<>();
    private ReferenceReader.TextError error;
    private String written = "";

    Reference() {
        state = ReferenceReader.system("vars a b c;let maj a&b|b&c|a&c;let odd a^b^c;");
    }

    List<String> variableNames() {
        return state.names;
    }

    /** The names of the functions; null where there is none. */
    List<String> functionNames() {
        List<String> names = new ArrayList<>();
        state.functions.forEach(f -> names.add(f.name()));
        return names;
    }

    private String text() {
        StringBuilder text = new StringBuilder();
        buffer.forEach(b -> text.append((char) (int) b));
        return text.toString();
    }

    private Drawing drawing() {
        return new Drawing(state);
    }

    private static void index(int i, int bound) {
        if (i < 0 || i >= bound) {
            throw new IndexOutOfBoundsException();
        }
    }

    private static void argument(boolean right) {
        if (!right) {
            throw new IllegalArgumentException();
        }
    }

    private static void stateful(boolean right) {
        if (!right) {
            throw new IllegalStateException();
        }
    }

    private void functions(int... fs) {
        for (int f : fs) {
            index(f, state.functions.size());
        }
    }

    private void variableExists(int variable) {
        index(variable, state.names.size());
    }

    private boolean[] values(int f) {
        return state.functions.get(f).values();
    }

    private boolean at(int f, int assignment) {
        return values(f)[assignment];
    }

    private void remember() {
        past.push(state.copy());
        if (past.size() > 8) {
            past.removeLast();
        }
    }

    private int add(java.util.function.IntPredicate formula) {
        stateful(state.functions.size() < 12);
        remember();
        state.add(null, formula);
        return state.functions.size() - 1;
    }

    public int append(int a, int b, int c, int d, int e) {
        stateful(buffer.size() <= 580);
        for (int four : new int[] {a, b, c, d, e}) {
            for (int shift = 24; shift >= 0; shift -= 8) {
                buffer.add(four >> shift & 255);
            }
        }
        return buffer.size();
    }

    public int truncate(int length) {
        argument(length >= 0 && length <= buffer.size());
        buffer.subList(length, buffer.size()).clear();
        return length;
    }

    public int load() {
        String text = text();
        buffer.clear();
        error = null;
        try {
            state = ReferenceReader.system(text);
        } catch (ReferenceReader.TextError e) {
            error = e;
            throw new IllegalArgumentException();
        }
        past.clear();
        saved.clear();
        return state.functions.size();
    }

    public int errorCode() {
        return error == null ? 0 : error.code;
    }

    public int errorPosition() {
        return error == null ? -1 : error.position;
    }

    public int count(int what) {
        argument(what >= 0 && what <= 6);
        Drawing drawing = drawing();
        return switch (what) {
            case 0 -> state.names.size();
            case 1 -> state.functions.size();
            case 2 -> drawing.numbered.size() - 2;
            case 3 -> (int) state.order.stream().filter(v -> drawing.testing(v) > 0).count();
            case 4 -> new HashSet<>(drawing.roots).size();
            case 5 -> (int) drawing.roots.stream().filter(root -> root.low == null).count();
            default -> past.size();
        };
    }

    public int variable(int variable, int what) {
        variableExists(variable);
        argument(what >= 0 && what <= 5);
        return switch (what) {
            case 0 -> state.order.indexOf(variable);
            case 1 -> state.costs.get(variable);
            case 2 -> state.percents.get(variable);
            case 3 -> drawing().testing(variable);
            case 4 -> {
                int count = 0;
                for (int f = 0; f < state.functions.size(); f++) {
                    count += depends(f, variable) ? 1 : 0;
                }
                yield count;
            }
            default -> state.names.get(variable).length();
        };
    }

    private boolean depends(int f, int variable) {
        for (int a = 0; a < state.assignments(); a++) {
            if (at(f, a) != at(f, a ^ 1 << variable)) {
                return true;
            }
        }
        return false;
    }

    public int variableAt(int level) {
        variableExists(level);
        return state.order.get(level);
    }

    public int function(int f, int what) {
        functions(f);
        argument(what >= 0 && what <= 4);
        return switch (what) {
            case 0 -> drawing().roots.get(f).number;
            case 1 -> drawing().innerReached(f);
            case 2 -> models(f).size();
            case 3 -> Integer.bitCount(support(f));
            default -> state.functions.get(f).name() == null ? 0 : state.functions.get(f).name().length();
        };
    }

    public int find() {
        int f = state.named(text());
        if (f < 0) {
            throw new NoSuchElementException();
        }
        return f;
    }

    public int node(int node, int what) {
        Drawing drawing = drawing();
        index(node, drawing.numbered.size());
        argument(what >= 0 && what <= 5);
        Node wanted = drawing.numbered.get(node);
        int count = 0;
        switch (what) {
            case 0:
                return wanted.variable;
            case 1:
                return wanted.low == null ? -1 : wanted.low.number;
            case 2:
                return wanted.high == null ? -1 : wanted.high.number;
            case 3:
                for (Node parent : drawing.numbered) {
                    count += parent.low == wanted || parent.high == wanted ? 1 : 0;
                }
                return count;
            case 4:
                for (int f = 0; f < drawing.roots.size(); f++) {
                    count += drawing.reached(f).contains(wanted) ? 1 : 0;
                }
                return count;
            default:
                for (Node root : drawing.roots) {
                    count += root == wanted ? 1 : 0;
                }
                return count;
        }
    }

    public int value(int f, int assignment) {
        functions(f);
        argument(assignment >= 0 && assignment < state.assignments());
        return at(f, assignment) ? 1 : 0;
    }

    private List<Integer> models(int f) {
        List<Integer> models = new ArrayList<>();
        for (int a = 0; a < state.assignments(); a++) {
            if (at(f, a)) {
                models.add(a);
            }
        }
        return models;
    }

    public int model(int f, int index) {
        functions(f);
        List<Integer> models = models(f);
        if (index < 0 || index >= models.size()) {
            throw new NoSuchElementException();
        }
        return models.get(index);
    }

    public int support(int f) {
        functions(f);
        int support = 0;
        for (int v = 0; v < state.names.size(); v++) {
            support += depends(f, v) ? 1 << v : 0;
        }
        return support;
    }

    public int polarity(int f, int variable) {
        functions(f);
        variableExists(variable);
        int polarity = 0;
        for (int a = 0; a < state.assignments(); a++) {
            boolean low = at(f, a & ~(1 << variable));
            boolean high = at(f, a | 1 << variable);
            polarity |= !low && high ? 1 : 0;
            polarity |= low && !high ? 2 : 0;
        }
        return polarity;
    }

    public int influence(int f, int variable) {
        functions(f);
        variableExists(variable);
        int count = 0;
        for (int a = 0; a < state.assignments(); a++) {
            count += at(f, a) != at(f, a ^ 1 << variable) ? 1 : 0;
        }
        return count;
    }

    public int paths(int f, int leaf) {
        functions(f);
        argument(leaf == 0 || leaf == 1);
        Drawing drawing = drawing();
        return drawing.paths(drawing.roots.get(f), leaf).size();
    }

    public int shortest(int f, int leaf) {
        functions(f);
        argument(leaf == 0 || leaf == 1);
        Drawing drawing = drawing();
        return drawing.paths(drawing.roots.get(f), leaf).stream().min(Integer::compare).orElse(-1);
    }

    public int longest(int f) {
        functions(f);
        Drawing drawing = drawing();
        int longest = 0;
        for (int leaf = 0; leaf < 2; leaf++) {
            for (int length : drawing.paths(drawing.roots.get(f), leaf)) {
                longest = Math.max(longest, length);
            }
        }
        return longest;
    }

    private int cost(int assignment) {
        int cost = 0;
        for (int v = 0; v < state.names.size(); v++) {
            cost += (assignment >> v) % 2 == 1 ? state.costs.get(v) : 0;
        }
        return cost;
    }

    public int cheapest(int f) {
        functions(f);
        return models(f).stream().map(this::cost).min(Integer::compare).orElse(-1);
    }

    public int cheapestModel(int f) {
        int least = cheapest(f);
        for (int model : models(f)) {
            if (cost(model) == least) {
                return model;
            }
        }
        throw new NoSuchElementException();
    }

    public double chance(int f) {
        functions(f);
        Drawing drawing = drawing();
        return drawing.chance(drawing.roots.get(f));
    }

    public boolean same(int f, int g) {
        functions(f, g);
        return Arrays.equals(values(f), values(g));
    }

    public boolean implies(int f, int g) {
        functions(f, g);
        return models(g).containsAll(models(f));
    }

    public int difference(int f, int g) {
        functions(f, g);
        return Arrays.mismatch(values(f), values(g));
    }

    public int twin(int f) {
        functions(f);
        for (int g = 0; g < state.functions.size(); g++) {
            if (g != f && same(f, g)) {
                return g;
            }
        }
        return -1;
    }

    public int common(int f, int g) {
        functions(f, g);
        Drawing drawing = drawing();
        Set<Node> both = drawing.reached(f);
        both.retainAll(drawing.reached(g));
        return (int) both.stream().filter(node -> node.low != null).count();
    }

    public int pairs(int f, int g) {
        functions(f, g);
        Drawing drawing = drawing();
        Set<List<Node>> met = new HashSet<>();
        drawing.meet(drawing.roots.get(f), drawing.roots.get(g), met);
        return met.size();
    }

    private static boolean combined(int operator, boolean a, boolean b) {
        return switch (operator) {
            case 0 -> a && b;
            case 1 -> a || b;
            case 2 -> a != b;
            case 3 -> !a || b;
            case 4 -> a == b;
            default -> a && !b;
        };
    }

    public int sizeOf(int operator, int f, int g) {
        functions(f, g);
        argument(operator >= 0 && operator <= 5);
        State other = state.copy();
        other.functions.clear();
        other.add(null, a -> combined(operator, at(f, a), at(g, a)));
        return other.size();
    }

    public int sizeIf(int variable, int level) {
        variableExists(variable);
        variableExists(level);
        return state.sizeIf(variable, level);
    }

    public int bestLevel(int variable) {
        variableExists(variable);
        return state.bestLevel(variable);
    }

    public int width(int level) {
        variableExists(level);
        return drawing().testing(state.order.get(level));
    }

    public int combine(int operator, int f, int g) {
        functions(f, g);
        argument(operator >= 0 && operator <= 5);
        return add(a -> combined(operator, at(f, a), at(g, a)));
    }

    public int choose(int f, int g, int h) {
        functions(f, g, h);
        return add(a -> at(f, a) ? at(g, a) : at(h, a));
    }

    public int negate(int f) {
        functions(f);
        return add(a -> !at(f, a));
    }

    private static int with(int assignment, int variable, boolean value) {
        return value ? assignment | 1 << variable : assignment & ~(1 << variable);
    }

    public int restrict(int f, int variable, boolean value) {
        functions(f);
        variableExists(variable);
        return add(a -> at(f, with(a, variable, value)));
    }

    public int quantify(int f, int variable, boolean all) {
        functions(f);
        variableExists(variable);
        return add(a -> {
            boolean low = at(f, with(a, variable, false));
            boolean high = at(f, with(a, variable, true));
            return all ? low && high : low || high;
        });
    }

    public int compose(int f, int variable, int g) {
        functions(f, g);
        variableExists(variable);
        return add(a -> at(f, with(a, variable, at(g, a))));
    }

    public int drop(int f) {
        functions(f);
        remember();
        int before = state.size();
        state.functions.remove(f);
        return before - state.size();
    }

    public int swap(int level) {
        index(level, state.names.size() - 1);
        remember();
        state.move(state.order.get(level), level + 1);
        return state.size();
    }

    public int move(int variable, int level) {
        variableExists(variable);
        variableExists(level);
        remember();
        state.move(variable, level);
        return state.size();
    }

    public int sift(int variable) {
        variableExists(variable);
        remember();
        state.move(variable, state.bestLevel(variable));
        return state.size();
    }

    public int siftAll() {
        remember();
        state.siftAll();
        return state.size();
    }

    public int setCost(int variable, int cost) {
        variableExists(variable);
        argument(cost >= 0 && cost <= 99);
        remember();
        return state.costs.set(variable, cost);
    }

    public int setPercent(int variable, int percent) {
        variableExists(variable);
        argument(percent >= 0 && percent <= 100);
        remember();
        return state.percents.set(variable, percent);
    }

    public int script() {
        String text = text();
        buffer.clear();
        error = null;
        State draft = state.copy();
        int statements;
        try {
            statements = ReferenceReader.script(text, draft);
        } catch (ReferenceReader.TextError e) {
            error = e;
            throw new IllegalArgumentException();
        }
        remember();
        state = draft;
        return statements;
    }

    public int undo() {
        stateful(!past.isEmpty());
        state = past.pop();
        return past.size();
    }

    public int save(int slot) {
        index(slot, 2);
        saved.put(slot, state.copy());
        return state.size();
    }

    public int restore(int slot) {
        index(slot, 2);
        stateful(saved.containsKey(slot));
        state = saved.get(slot).copy();
        past.clear();
        return state.size();
    }

    public int writeFunction(int f) {
        functions(f);
        Drawing drawing = drawing();
        Set<Node> reached = drawing.reached(f);
        StringBuilder text = new StringBuilder().append(drawing.roots.get(f).number);
        for (Node node : drawing.numbered) {
            if (node.low != null && reached.contains(node)) {
                text.append(";" + node.number + ":" + state.names.get(node.variable) + " " + node.low.number + ","
                        + node.high.number);
            }
        }
        written = text.toString();
        return written.length();
    }

    public int writeOrder() {
        List<String> names = new ArrayList<>();
        state.order.forEach(v -> names.add(state.names.get(v)));
        written = String.join(",", names);
        return written.length();
    }

    public int textByte(int index) {
        index(index, written.length());
        return written.charAt(index);
    }
}
