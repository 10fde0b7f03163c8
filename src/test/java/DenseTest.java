import java.util.Random;

/** All promises at the limits of room: 12 functions of 8 variables without any order in their values. */
final class DenseTest {
    private static final int MOST_NODES_OF_A_FUNCTION = 77;
    private static final int MANY_NODES = 560;

    private static final Random RANDOM = new Random(7);

    private static DecisionDiagrams x;
    private static Reference reference;
    private static int largestFunction;
    private static int largestDiagram;

    public static void main(String[] args) {
        for (int round = 0; round < 4; round++) {
            x = new DecisionDiagrams();
            reference = new Reference();
            load("vars a b c d e f g h;");
            for (int f = 0; f < 10; f++) {
                addFunction((char) ('i' + f));
            }
            Check.equal("choose", x.choose(0, 1, 2), reference.choose(0, 1, 2));
            Check.equal("combine", x.combine(2, 3, 4), reference.combine(2, 3, 4));
            compare();
            Check.equal("swap", x.swap(round), reference.swap(round));
            compare();
        }
        Check.equal("the largest function", largestFunction, MOST_NODES_OF_A_FUNCTION);
        Check.report(largestDiagram > MANY_NODES, "the largest diagram has " + largestDiagram);
        Check.equal("siftAll", x.siftAll(), reference.siftAll());
        compareFunctions();
        Check.finish("DenseTest");
    }

    private static void load(String text) {
        put(text);
        Check.equal("load", x.load(), reference.load());
    }

    private static void script(String text) {
        put(text);
        Check.equal("script", x.script(), reference.script());
    }

    private static void put(String text) {
        Texts.put(x, text);
        for (int[] part : Texts.appends(text)) {
            reference.append(part[0], part[1], part[2], part[3], part[4]);
        }
        reference.truncate(text.length());
    }

    /** A text has room for half of the values of such a function. */
    private static void addFunction(char name) {
        script("let half " + choices("bcd") + ";");
        script("let rest " + choices("bcd") + ";");
        script("let " + name + " if(a,half,rest);drop half;drop rest;");
    }

    private static String choices(String variables) {
        if (variables.isEmpty()) {
            return sum();
        }
        String rest = variables.substring(1);
        return "if(" + variables.charAt(0) + "," + choices(rest) + "," + choices(rest) + ")";
    }

    /** Each function of e, f, g and h is a sum of products in just one way. */
    private static String sum() {
        StringBuilder sum = new StringBuilder(RANDOM.nextBoolean() ? "1" : "0");
        for (int product = 1; product < 16; product++) {
            if (RANDOM.nextBoolean()) {
                char sign = '^';
                for (int factor = 0; factor < 4; factor++) {
                    if ((product >> factor & 1) == 1) {
                        sum.append(sign).append((char) ('e' + factor));
                        sign = '&';
                    }
                }
            }
        }
        return sum.toString();
    }

    private static void compare() {
        largestDiagram = Math.max(largestDiagram, x.count(2));
        for (int what = 0; what < 7; what++) {
            Check.equal("count", x.count(what), reference.count(what));
        }
        for (int node = 0; node < x.count(2) + 2; node += 1 + node / 20) {
            for (int what = 0; what < 6; what++) {
                Check.equal("node", x.node(node, what), reference.node(node, what));
            }
        }
        for (int level = 0; level < 8; level++) {
            Check.equal("width", x.width(level), reference.width(level));
            Check.equal("sizeIf", x.sizeIf(3, level), reference.sizeIf(3, level));
        }
        compareFunctions();
    }

    private static void compareFunctions() {
        for (int f = 0; f < x.count(1); f++) {
            largestFunction = Math.max(largestFunction, x.function(f, 1));
            int last = x.count(1) - 1 - f;
            for (int what = 0; what < 4; what++) {
                Check.equal("function", x.function(f, what), reference.function(f, what));
            }
            int length = reference.writeFunction(f);
            Check.equal("writeFunction", x.writeFunction(f), length);
            for (int index = 0; index < length; index++) {
                Check.equal("textByte", x.textByte(index), reference.textByte(index));
            }
            for (int leaf = 0; leaf < 2; leaf++) {
                Check.equal("paths", x.paths(f, leaf), reference.paths(f, leaf));
                Check.equal("shortest", x.shortest(f, leaf), reference.shortest(f, leaf));
            }
            Check.equal("longest", x.longest(f), reference.longest(f));
            Check.exactly("chance", x.chance(f), reference.chance(f));
            Check.equal("pairs", x.pairs(f, last), reference.pairs(f, last));
            Check.equal("common", x.common(f, last), reference.common(f, last));
            Check.equal("difference", x.difference(f, last), reference.difference(f, last));
            Check.equal("sizeOf", x.sizeOf(2, f, last), reference.sizeOf(2, f, last));
            for (int variable = 0; variable < 8; variable++) {
                Check.equal("polarity", x.polarity(f, variable), reference.polarity(f, variable));
                Check.equal("influence", x.influence(f, variable), reference.influence(f, variable));
            }
        }
    }
}
