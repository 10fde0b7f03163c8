import java.util.NoSuchElementException;

/** Promises 7 to 12: counts, variables, functions and nodes. */
final class CountsTest {
    public static void main(String[] args) {
        count();
        variable();
        variableAt();
        function();
        find();
        nodesOfNewObject();
        nodesElsewhere();
        Check.finish("CountsTest");
    }

    private static void counts(String what, DecisionDiagrams x, int... due) {
        for (int i = 0; i < due.length; i++) {
            Check.equal(what + ": count(" + i + ")", x.count(i), due[i]);
        }
    }

    /** Promise 7. */
    private static void count() {
        DecisionDiagrams x = new DecisionDiagrams();
        counts("a new object", x, 3, 2, 8, 3, 2, 0, 0);
        for (int what : new int[] {-1, 7, Integer.MIN_VALUE, Integer.MAX_VALUE}) {
            Check.raises("count(" + what + ")", IllegalArgumentException.class, () -> x.count(what));
        }
        x.negate(0);
        // it shares !c with odd
        counts("with !maj", x, 3, 3, 11, 3, 3, 0, 1);
        x.negate(2);
        counts("with maj twice", x, 3, 4, 11, 3, 3, 0, 2);
        x.combine(2, 0, 0);
        x.combine(4, 0, 0);
        x.combine(2, 1, 1);
        counts("with 0, 1 and 0", x, 3, 7, 11, 3, 5, 3, 5);
        x.undo();
        counts("after undo", x, 3, 6, 11, 3, 5, 2, 4);
        counts("no function", Texts.system("vars a b;"), 2, 0, 0, 0, 0, 0, 0);
        counts("b alone", Texts.system("vars a b c;let f b;let g !b;let h b;"), 3, 3, 2, 1, 2, 0, 0);
        counts("1 and a", Texts.system("vars a;let f 1;let g a;"), 1, 2, 1, 1, 2, 1, 0);
        counts("a and c", Texts.system("vars a b c;let f a=c;let g 1;let h 1;let i 0;"), 3, 4, 3, 2, 3, 3, 0);
        for (int change = 1; change <= 10; change++) {
            x.setCost(0, change);
        }
        Check.equal("at most 8 changes", x.count(6), 8);
    }

    /** Promise 8. */
    private static void variable() {
        DecisionDiagrams x = Texts.system("vars a bcdefgh c;let f a&c;let g a^c;let h 1;cost c 9;percent a 3;");
        int[][] due = {{0, 0, 3, 2, 2, 1}, {1, 0, 50, 0, 0, 7}, {2, 9, 50, 2, 2, 1}};
        for (int variable = 0; variable < 3; variable++) {
            for (int what = 0; what < 6; what++) {
                Check.equal("variable(" + variable + ", " + what + ")", x.variable(variable, what), due[variable][what]);
            }
        }
        x.move(2, 0);
        Check.equal("level of c", x.variable(2, 0), 0);
        Check.equal("level of a", x.variable(0, 0), 1);
        Check.equal("level of bcdefgh", x.variable(1, 0), 2);
        Check.equal("c is tested", x.variable(2, 3), 2);
        Check.equal("a is tested", x.variable(0, 3), 2);
        Check.equal("the cost stays with c", x.variable(2, 1), 9);
        x.drop(0);
        Check.equal("functions that depend on a", x.variable(0, 4), 1);
        for (int variable : new int[] {-1, 3, 8, Integer.MIN_VALUE, Integer.MAX_VALUE}) {
            Check.raises("variable(" + variable + ", 0)", IndexOutOfBoundsException.class, () -> x.variable(variable, 0));
            Check.raises("variable(" + variable + ", 6)", IndexOutOfBoundsException.class, () -> x.variable(variable, 6));
        }
        Check.raises("variable(0, 6)", IllegalArgumentException.class, () -> x.variable(0, 6));
        Check.raises("variable(0, -1)", IllegalArgumentException.class, () -> x.variable(0, -1));
        DecisionDiagrams y = new DecisionDiagrams();
        Check.equal("nodes that test b", y.variable(1, 3), 4);
        Check.equal("nodes that test c", y.variable(2, 3), 2);
    }

    /** Promise 9. */
    private static void variableAt() {
        DecisionDiagrams x = new DecisionDiagrams();
        x.move(0, 2);
        Check.equal("level 0", x.variableAt(0), 1);
        Check.equal("level 1", x.variableAt(1), 2);
        Check.equal("level 2", x.variableAt(2), 0);
        for (int level : new int[] {-1, 3, 8, Integer.MIN_VALUE, Integer.MAX_VALUE}) {
            Check.raises("variableAt(" + level + ")", IndexOutOfBoundsException.class, () -> x.variableAt(level));
        }
    }

    /** Promise 10. */
    private static void function() {
        DecisionDiagrams x = Texts.system("vars a b c;let abcdefg a&b;let one 1;let z b;let none 0;");
        int[][] due = {{2, 2, 2, 2, 7}, {1, 0, 8, 0, 3}, {3, 1, 4, 1, 1}, {0, 0, 0, 0, 4}};
        for (int f = 0; f < 4; f++) {
            for (int what = 0; what < 5; what++) {
                Check.equal("function(" + f + ", " + what + ")", x.function(f, what), due[f][what]);
            }
        }
        x.negate(0);
        Check.equal("no name", x.function(4, 4), 0);
        Check.equal("models of a NAND", x.function(4, 2), 6);
        for (int f : new int[] {-1, 5, 12, Integer.MIN_VALUE, Integer.MAX_VALUE}) {
            Check.raises("function(" + f + ", 0)", IndexOutOfBoundsException.class, () -> x.function(f, 0));
            Check.raises("function(" + f + ", 5)", IndexOutOfBoundsException.class, () -> x.function(f, 5));
        }
        Check.raises("function(0, 5)", IllegalArgumentException.class, () -> x.function(0, 5));
        Check.raises("function(0, -1)", IllegalArgumentException.class, () -> x.function(0, -1));
        DecisionDiagrams y = new DecisionDiagrams();
        Check.equal("root of odd", y.function(1, 0), 6);
        Check.equal("odd is reached through a shared node", y.function(1, 1), 5);
        y.drop(0);
        Check.equal("root of odd then", y.function(0, 0), 2);
    }

    /** Promise 11. */
    private static void find() {
        DecisionDiagrams x = new DecisionDiagrams();
        Check.equal("odd", Texts.find(x, "odd"), 1);
        Check.equal("the buffer stays", x.find(), 1);
        for (String other : new String[] {"", "od", "oddd", " odd", "odd ", "ODD", "a", "odd;", "oddmajx", "majoddmaj",
            "\u0000odd", "odd\u0000", "\u0000\u0000\u0000\u0000odd", "\u0000\u0000\u0000\u0000\u0000odd"}) {
            Texts.put(x, other);
            Check.raises("find " + other, NoSuchElementException.class, x::find);
            Check.equal("the buffer stays", x.truncate(other.length()), other.length());
        }
        x.negate(0);
        Texts.put(x, "");
        Check.raises("no name is not the empty name", NoSuchElementException.class, x::find);
        x.drop(0);
        Check.equal("odd then", Texts.find(x, "odd"), 0);
        Texts.put(x, "maj");
        Check.raises("maj is dropped", NoSuchElementException.class, x::find);
        Texts.script(x, "let z a;");
        Check.equal("the last letter", Texts.find(x, "z"), 2);
        x.drop(2);
        Texts.script(x, "let abcdefg a;");
        Check.equal("7 letters", Texts.find(x, "abcdefg"), 2);
        Texts.put(x, "abcdefgh");
        Check.raises("8 letters", NoSuchElementException.class, x::find);
        Texts.put(x, "habcdefg");
        Check.raises("8 other letters", NoSuchElementException.class, x::find);
    }

    private static void nodes(DecisionDiagrams x, int[][] due) {
        for (int node = 0; node < due.length; node++) {
            for (int what = 0; what < 6; what++) {
                Check.equal("node(" + node + ", " + what + ")", x.node(node, what), due[node][what]);
            }
        }
        for (int node : new int[] {-1, due.length, 628, 629, Integer.MIN_VALUE, Integer.MAX_VALUE}) {
            Check.raises("node(" + node + ", 0)", IndexOutOfBoundsException.class, () -> x.node(node, 0));
            Check.raises("node(" + node + ", 6)", IndexOutOfBoundsException.class, () -> x.node(node, 6));
        }
        Check.raises("node(0, 6)", IllegalArgumentException.class, () -> x.node(0, 6));
        Check.raises("node(1, -1)", IllegalArgumentException.class, () -> x.node(1, -1));
    }

    /** Promise 12. */
    private static void nodesOfNewObject() {
        nodes(new DecisionDiagrams(), new int[][] {{-1, -1, -1, 3, 2, 0}, {-1, -1, -1, 3, 2, 0}, {0, 3, 5, 0, 1, 1},
            {1, 0, 4, 1, 1, 0}, {2, 0, 1, 4, 2, 0}, {1, 4, 1, 1, 1, 0}, {0, 7, 9, 0, 1, 1}, {1, 4, 8, 1, 1, 0},
            {2, 1, 0, 2, 1, 0}, {1, 8, 4, 1, 1, 0}});
    }

    private static void nodesElsewhere() {
        nodes(Texts.system("vars a;"), new int[][] {{-1, -1, -1, 0, 0, 0}, {-1, -1, -1, 0, 0, 0}});
        nodes(Texts.system("vars a;let f 1;let g 1;"), new int[][] {{-1, -1, -1, 0, 0, 0}, {-1, -1, -1, 0, 2, 2}});
        DecisionDiagrams x = Texts.system("vars a b;let f a&b;let g b;let h a&b;let i 0;");
        nodes(x, new int[][] {{-1, -1, -1, 2, 4, 1}, {-1, -1, -1, 1, 3, 0}, {0, 0, 3, 0, 2, 2}, {1, 0, 1, 1, 3, 1}});
        x.swap(0);
        nodes(x, new int[][] {{-1, -1, -1, 3, 4, 1}, {-1, -1, -1, 2, 3, 0}, {1, 0, 3, 0, 2, 2}, {0, 0, 1, 1, 2, 0},
            {1, 0, 1, 0, 1, 1}});
    }
}
