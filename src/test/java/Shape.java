import java.util.HashSet;
import java.util.Set;

/** The diagram of an object, read by the calls node, function and variable, to be held against terms 2. */
final class Shape {
    private final int variables;
    private final int functions;
    private final int size;
    private final int[] levels;
    private final int[] tested;
    private final int[] low;
    private final int[] high;
    private final int[] roots;

    Shape(DecisionDiagrams x) {
        variables = x.count(0);
        functions = x.count(1);
        size = x.count(2);
        levels = new int[size + 2];
        tested = new int[size + 2];
        low = new int[size + 2];
        high = new int[size + 2];
        roots = new int[functions];
        for (int node = 0; node < size + 2; node++) {
            tested[node] = x.node(node, 0);
            low[node] = x.node(node, 1);
            high[node] = x.node(node, 2);
            levels[node] = node < 2 ? variables : x.variable(tested[node], 0);
        }
        for (int f = 0; f < functions; f++) {
            roots[f] = x.function(f, 0);
        }
    }

    void check() {
        checkLevels();
        checkReduced();
        checkReached();
        checkNumbers();
    }

    void checkLevels() {
        for (int node = 2; node < size + 2; node++) {
            Check.report(levels[low[node]] > levels[node], "the low child of " + node + " is not below it");
            Check.report(levels[high[node]] > levels[node], "the high child of " + node + " is not below it");
        }
        for (int root : roots) {
            Check.report(root >= 0 && root < size + 2, "no node is the root " + root);
        }
        Check.report(levels[0] == variables && levels[1] == variables, "the leaves are at no level");
    }

    void checkReduced() {
        Set<String> nodes = new HashSet<>();
        for (int node = 2; node < size + 2; node++) {
            Check.report(low[node] != high[node], node + " has twice the same child");
            Check.report(nodes.add(tested[node] + ":" + low[node] + "," + high[node]), node + " is another one's double");
        }
        Check.equal("nodes", nodes.size(), size);
    }

    void checkReached() {
        Set<Integer> reached = new HashSet<>();
        for (int root : roots) {
            reach(root, reached);
        }
        for (int node = 2; node < size + 2; node++) {
            Check.report(reached.contains(node), node + " is not reached");
        }
        Check.report(!reached.contains(-1), "a child of a leaf is reached");
    }

    private void reach(int node, Set<Integer> reached) {
        if (reached.add(node) && node > 1) {
            reach(low[node], reached);
            reach(high[node], reached);
        }
    }

    void checkNumbers() {
        int next = 2;
        for (int root : roots) {
            next = checkNumber(root, next);
        }
        Check.equal("the last number", next, size + 2);
    }

    /** Answers the number that the next node gets. */
    private int checkNumber(int node, int next) {
        if (node < next) {
            return next;
        }
        Check.equal("the next number", node, next);
        return node > next ? node + 1 : checkNumber(high[node], checkNumber(low[node], next + 1));
    }

    /** The values by following the diagram, against those that another object with the same functions tells. */
    void checkValues(DecisionDiagrams same) {
        for (int f = 0; f < functions; f++) {
            for (int assignment = 0; assignment < Math.min(1 << variables, 32); assignment++) {
                int node = roots[f];
                while (node > 1) {
                    node = (assignment >> tested[node] & 1) == 0 ? low[node] : high[node];
                }
                Check.equal("value of " + f + " for " + assignment, same.value(f, assignment), node);
            }
        }
        Check.equal("functions", same.count(1), functions);
    }

    void checkSizes(DecisionDiagrams same) {
        for (int f = 0; f < functions; f++) {
            Set<Integer> reached = new HashSet<>();
            reach(roots[f], reached);
            reached.removeAll(Set.of(0, 1));
            Check.equal("size of " + f, same.function(f, 1), reached.size());
        }
        Check.equal("size of the diagram", same.count(2), size);
    }
}
