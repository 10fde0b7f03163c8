/** Promises 31 to 33 and 41 to 44: other orders. */
final class OrdersTest {
    /** The size is 6 where each variable stands beside its partner (a and b, c and d, e and f), at most 14. */
    private static final String PARTNERS = "vars a c e b d f;let g a&b|c&d|e&f;";

    public static void main(String[] args) {
        sizeIf();
        bestLevel();
        width();
        swap();
        move();
        sift();
        presentLevelFirst();
        siftAll();
        siftAllSequence();
        Check.finish("OrdersTest");
    }

    /** Promise 31. */
    private static void sizeIf() {
        Check.equal("where it is", Texts.system(PARTNERS).sizeIf(0, 0), 14);
        for (int variable = 0; variable < 6; variable++) {
            for (int level = 0; level < 6; level++) {
                DecisionDiagrams x = Texts.system(PARTNERS);
                int size = x.sizeIf(variable, level);
                Check.equal("no change", x.count(6), 0);
                Check.equal("the order stays", Texts.order(x), "a,c,e,b,d,f");
                Check.equal("size as for move", x.move(variable, level), size);
            }
        }
        DecisionDiagrams x = Texts.system(PARTNERS);
        for (int none : new int[] {-1, 6, 8, Integer.MIN_VALUE, Integer.MAX_VALUE}) {
            Check.raises("sizeIf", IndexOutOfBoundsException.class, () -> x.sizeIf(none, 0));
            Check.raises("sizeIf", IndexOutOfBoundsException.class, () -> x.sizeIf(0, none));
        }
    }

    /** Promise 32. */
    private static void bestLevel() {
        DecisionDiagrams x = Texts.system(PARTNERS);
        for (int variable = 0; variable < 6; variable++) {
            int best = x.bestLevel(variable);
            Check.equal("no change", x.count(6), 0);
            Check.equal("the order stays", Texts.order(x), "a,c,e,b,d,f");
            x.sift(variable);
            Check.equal("level as for sift", x.variable(variable, 0), best);
            x.undo();
        }
        Check.equal("b goes to the top", x.bestLevel(3), 0);
        for (int none : new int[] {-1, 6, 8, Integer.MIN_VALUE, Integer.MAX_VALUE}) {
            Check.raises("bestLevel", IndexOutOfBoundsException.class, () -> x.bestLevel(none));
        }
    }

    /** Promise 33. */
    private static void width() {
        DecisionDiagrams x = Texts.system(PARTNERS);
        int[] due = {1, 2, 4, 4, 2, 1};
        for (int level = 0; level < 6; level++) {
            Check.equal("width(" + level + ")", x.width(level), due[level]);
        }
        for (int none : new int[] {-1, 6, 8, Integer.MIN_VALUE, Integer.MAX_VALUE}) {
            Check.raises("width", IndexOutOfBoundsException.class, () -> x.width(none));
        }
        DecisionDiagrams y = Texts.system("vars a b c;let f c;let g a;let h a&c;");
        Check.equal("a", y.width(0), 2);
        Check.equal("b", y.width(1), 0);
        Check.equal("c", y.width(2), 1);
        y.move(2, 0);
        Check.equal("c on top", y.width(0), 2);
        Check.equal("a below", y.width(1), 1);
    }

    /** Promise 41. */
    private static void swap() {
        DecisionDiagrams x = Texts.system(PARTNERS);
        Check.equal("swap(2)", x.swap(2), 10);
        Check.equal("order", Texts.order(x), "a,c,b,e,d,f");
        Check.equal("swap(1)", x.swap(1), 8);
        Check.equal("order", Texts.order(x), "a,b,c,e,d,f");
        Check.equal("swap(4)", x.swap(4), 8);
        Check.equal("order", Texts.order(x), "a,b,c,e,f,d");
        Check.equal("swap(0)", x.swap(0), 8);
        Check.equal("order", Texts.order(x), "b,a,c,e,f,d");
        Check.equal("each one is a change", x.count(6), 4);
        Check.equal("the function stays", x.function(0, 2), 37);
        for (int level : new int[] {-1, 5, 6, 7, Integer.MIN_VALUE, Integer.MAX_VALUE}) {
            Check.raises("swap(" + level + ")", IndexOutOfBoundsException.class, () -> x.swap(level));
        }
        Check.equal("no change by these", x.count(6), 4);
        x.undo();
        Check.equal("undone", Texts.order(x), "a,b,c,e,f,d");
        DecisionDiagrams one = Texts.system("vars a;let f a;");
        Check.raises("swap(0) of one", IndexOutOfBoundsException.class, () -> one.swap(0));
        Check.raises("swap(-1) of one", IndexOutOfBoundsException.class, () -> one.swap(-1));
    }

    /** Promise 42. */
    private static void move() {
        DecisionDiagrams x = Texts.system(PARTNERS);
        Check.equal("up", x.move(3, 1), 8);
        Check.equal("order", Texts.order(x), "a,b,c,e,d,f");
        Check.equal("down", x.move(2, 5), 6);
        Check.equal("order", Texts.order(x), "a,b,c,d,f,e");
        Check.equal("to its level", x.move(2, 5), 6);
        Check.equal("order", Texts.order(x), "a,b,c,d,f,e");
        Check.equal("that is a change, too", x.count(6), 3);
        Check.equal("to the top", x.move(2, 0), 10);
        Check.equal("order", Texts.order(x), "e,a,b,c,d,f");
        Check.equal("from the top", x.move(2, 4), 6);
        Check.equal("order", Texts.order(x), "a,b,c,d,e,f");
        Check.equal("the function stays", x.function(0, 2), 37);
        for (int none : new int[] {-1, 6, 8, Integer.MIN_VALUE, Integer.MAX_VALUE}) {
            Check.raises("move", IndexOutOfBoundsException.class, () -> x.move(none, 0));
            Check.raises("move", IndexOutOfBoundsException.class, () -> x.move(0, none));
        }
        Check.equal("no change by these", x.count(6), 5);
        x.undo();
        Check.equal("undone", Texts.order(x), "e,a,b,c,d,f");
    }

    /** Promise 43. */
    private static void sift() {
        DecisionDiagrams x = Texts.system(PARTNERS);
        Check.equal("b", x.sift(3), 8);
        Check.equal("to the smallest of two levels", Texts.order(x), "b,a,c,e,d,f");
        Check.equal("d", x.sift(4), 6);
        Check.equal("to the smallest of two levels", Texts.order(x), "b,a,d,c,e,f");
        Check.equal("changes", x.count(6), 2);
        for (int none : new int[] {-1, 6, 8, Integer.MIN_VALUE, Integer.MAX_VALUE}) {
            Check.raises("sift", IndexOutOfBoundsException.class, () -> x.sift(none));
        }
        Check.equal("no change by these", x.count(6), 2);
        x.undo();
        Check.equal("undone", Texts.order(x), "b,a,c,e,d,f");
    }

    private static void presentLevelFirst() {
        DecisionDiagrams x = Texts.system("vars a b c;let f a^b^c;");
        for (int variable = 0; variable < 3; variable++) {
            Check.equal("any level is as good", x.bestLevel(variable), variable);
            Check.equal("sift", x.sift(variable), 5);
            Check.equal("it stays", Texts.order(x), "a,b,c");
        }
        Check.equal("these are changes", x.count(6), 3);
        DecisionDiagrams y = Texts.system("vars a b;");
        Check.equal("no nodes", y.sift(1), 0);
        Check.equal("it stays", Texts.order(y), "a,b");
    }

    /** Promise 44. */
    private static void siftAll() {
        DecisionDiagrams x = Texts.system(PARTNERS);
        Check.equal("siftAll", x.siftAll(), 6);
        Check.equal("one change", x.count(6), 1);
        Check.equal("the function stays", x.function(0, 2), 37);
        Check.equal("again", x.siftAll(), 6);
        x.undo();
        x.undo();
        Check.equal("undone", Texts.order(x), "a,c,e,b,d,f");
        Check.equal("undone", x.count(2), 14);
    }

    /** What is sifted first, by the nodes ahead of all sifting, shows in the order. */
    private static void siftAllSequence() {
        sequence(PARTNERS, 2, 3, 1, 4, 0, 5);
        sequence("vars a b c d;let f b&d|a;let g if(c,a,b^d);", null);
        sequence("vars a b c d e;let f if(e,a&d,b^c);let g d>e;let h c&a;", null);
        sequence("vars a b c d e f g h;let x a&h|b&g|c&f|d&e;let y a^d|h&f;let z if(g,d,b^c^a);", null);
    }

    private static void sequence(String system, int... due) {
        DecisionDiagrams x = Texts.system(system);
        int variables = x.count(0);
        boolean[] done = new boolean[variables];
        int[] nodes = new int[variables];
        for (int variable = 0; variable < variables; variable++) {
            nodes[variable] = x.variable(variable, 3);
        }
        DecisionDiagrams byHand = Texts.system(system);
        for (int place = 0; place < variables; place++) {
            int next = -1;
            for (int variable = 0; variable < variables; variable++) {
                if (!done[variable] && (next < 0 || nodes[variable] > nodes[next])) {
                    next = variable;
                }
            }
            if (due != null) {
                Check.equal("sifted at place " + place, next, due[place]);
            }
            done[next] = true;
            byHand.sift(next);
        }
        Check.equal("siftAll of " + system, x.siftAll(), byHand.count(2));
        Check.equal("order by siftAll of " + system, Texts.order(x), Texts.order(byHand));
        DecisionDiagrams byScript = Texts.system(system);
        Texts.script(byScript, "siftall;");
        Check.equal("order by siftall of " + system, Texts.order(byScript), Texts.order(byHand));
    }
}
