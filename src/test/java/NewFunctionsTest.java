import java.util.function.ToIntFunction;

/** Promises 34 to 40: functions are added and dropped. */
final class NewFunctionsTest {
    private static final int[] NO_FUNCTIONS = {-1, 4, 12, Integer.MIN_VALUE, Integer.MAX_VALUE};
    private static final int[] NO_VARIABLES = {-1, 3, 8, Integer.MIN_VALUE, Integer.MAX_VALUE};

    public static void main(String[] args) {
        combine();
        choose();
        negate();
        restrict();
        quantify();
        compose();
        drop();
        fullHouse();
        Check.finish("NewFunctionsTest");
    }

    /** a, b, a&b|c and odd, of the variables a, b and c. */
    private static DecisionDiagrams four() {
        return Texts.system("vars a b c;let f a;let g b;let h a&b|c;let i a^b^c;");
    }

    /** The function is the last one, is equal to a formula, has no name, and is one change. */
    private static void added(ToIntFunction<DecisionDiagrams> call, String formula) {
        DecisionDiagrams x = four();
        int number = call.applyAsInt(x);
        int functions = x.count(1);
        Check.equal("number of " + formula, number, functions - 1);
        Check.equal("no name for " + formula, x.function(number, 4), 0);
        Texts.script(x, "let due " + formula + ";");
        Check.equal(formula, Texts.values(x, number), Texts.values(x, number + 1));
        x.undo();
        int before = x.count(6);
        Check.equal("undo", x.undo(), before - 1);
        Check.equal("undone", x.count(1), functions - 1);
    }

    private static void unchanged(DecisionDiagrams x) {
        Check.equal("functions", x.count(1), 4);
        Check.equal("changes", x.count(6), 0);
    }

    /** Promise 34. */
    private static void combine() {
        String[] formulas = {"f&h", "f|h", "f^h", "f>h", "f=h", "f&!h"};
        String[] others = {"h&f", "h|f", "h^f", "h>f", "h=f", "h&!f"};
        String[] alone = {"h", "h", "0", "1", "1", "0"};
        for (int i = 0; i < 6; i++) {
            int operator = i;
            added(x -> x.combine(operator, 0, 2), formulas[operator]);
            added(x -> x.combine(operator, 2, 0), others[operator]);
            added(x -> x.combine(operator, 2, 2), alone[operator]);
        }
        DecisionDiagrams x = four();
        for (int f : NO_FUNCTIONS) {
            Check.raises("combine", IndexOutOfBoundsException.class, () -> x.combine(0, f, 0));
            Check.raises("combine", IndexOutOfBoundsException.class, () -> x.combine(0, 0, f));
            Check.raises("combine, operator too", IndexOutOfBoundsException.class, () -> x.combine(6, 0, f));
        }
        for (int operator : new int[] {-1, 6, Integer.MIN_VALUE, Integer.MAX_VALUE}) {
            Check.raises("combine", IllegalArgumentException.class, () -> x.combine(operator, 0, 0));
        }
        unchanged(x);
    }

    /** Promise 35. */
    private static void choose() {
        added(x -> x.choose(0, 1, 3), "if(a,b,i)");
        added(x -> x.choose(3, 0, 1), "if(i,a,b)");
        added(x -> x.choose(2, 2, 2), "h");
        added(x -> x.choose(2, 0, 0), "a");
        DecisionDiagrams x = four();
        for (int f : NO_FUNCTIONS) {
            Check.raises("choose", IndexOutOfBoundsException.class, () -> x.choose(f, 0, 0));
            Check.raises("choose", IndexOutOfBoundsException.class, () -> x.choose(0, f, 0));
            Check.raises("choose", IndexOutOfBoundsException.class, () -> x.choose(0, 0, f));
        }
        unchanged(x);
    }

    /** Promise 36. */
    private static void negate() {
        added(x -> x.negate(0), "!a");
        added(x -> x.negate(2), "!h");
        added(x -> x.negate(3), "!i");
        DecisionDiagrams x = four();
        for (int f : NO_FUNCTIONS) {
            Check.raises("negate", IndexOutOfBoundsException.class, () -> x.negate(f));
        }
        unchanged(x);
    }

    /** Promise 37. */
    private static void restrict() {
        added(x -> x.restrict(2, 0, true), "b|c");
        added(x -> x.restrict(2, 0, false), "c");
        added(x -> x.restrict(2, 1, true), "a|c");
        added(x -> x.restrict(2, 2, true), "1");
        added(x -> x.restrict(2, 2, false), "a&b");
        added(x -> x.restrict(3, 1, true), "!(a^c)");
        added(x -> x.restrict(0, 1, true), "a");
        DecisionDiagrams x = four();
        for (int f : NO_FUNCTIONS) {
            Check.raises("restrict", IndexOutOfBoundsException.class, () -> x.restrict(f, 0, true));
        }
        for (int variable : NO_VARIABLES) {
            Check.raises("restrict", IndexOutOfBoundsException.class, () -> x.restrict(0, variable, true));
        }
        unchanged(x);
    }

    /** Promise 38. */
    private static void quantify() {
        added(x -> x.quantify(2, 0, true), "all a h");
        added(x -> x.quantify(2, 0, true), "c");
        added(x -> x.quantify(2, 0, false), "b|c");
        added(x -> x.quantify(2, 2, true), "a&b");
        added(x -> x.quantify(2, 2, false), "1");
        added(x -> x.quantify(3, 1, true), "0");
        added(x -> x.quantify(3, 1, false), "1");
        added(x -> x.quantify(0, 2, true), "a");
        added(x -> x.quantify(0, 2, false), "a");
        DecisionDiagrams x = four();
        for (int f : NO_FUNCTIONS) {
            Check.raises("quantify", IndexOutOfBoundsException.class, () -> x.quantify(f, 0, true));
        }
        for (int variable : NO_VARIABLES) {
            Check.raises("quantify", IndexOutOfBoundsException.class, () -> x.quantify(0, variable, false));
        }
        unchanged(x);
    }

    /** Promise 39. */
    private static void compose() {
        added(x -> x.compose(2, 0, 1), "b|c");
        added(x -> x.compose(2, 2, 0), "a&b|a");
        added(x -> x.compose(2, 2, 3), "a&b|(a^b^c)");
        added(x -> x.compose(3, 0, 2), "(a&b|c)^b^c");
        added(x -> x.compose(2, 0, 0), "h");
        added(x -> x.compose(2, 0, 2), "(a&b|c)&b|c");
        added(x -> x.compose(0, 1, 3), "a");
        DecisionDiagrams x = four();
        for (int f : NO_FUNCTIONS) {
            Check.raises("compose", IndexOutOfBoundsException.class, () -> x.compose(f, 0, 0));
            Check.raises("compose", IndexOutOfBoundsException.class, () -> x.compose(0, 0, f));
        }
        for (int variable : NO_VARIABLES) {
            Check.raises("compose", IndexOutOfBoundsException.class, () -> x.compose(0, variable, 0));
        }
        unchanged(x);
    }

    /** Promise 40. */
    private static void drop() {
        DecisionDiagrams x = new DecisionDiagrams();
        x.negate(0);
        x.negate(2);
        // maj, odd, !maj, maj: all but the root of !maj and its two children are shared
        Check.equal("a twin stays", x.drop(0), 0);
        Check.equal("functions", x.count(1), 3);
        Check.equal("odd is 0 now", Texts.find(x, "odd"), 0);
        Check.equal("!maj is 1 now", Texts.values(x, 1), "11101000");
        Check.equal("maj is 2 now", Texts.values(x, 2), "00010111");
        Check.equal("no name", x.function(2, 4), 0);
        Check.equal("odd", x.drop(0), 3);
        Check.equal("maj", x.drop(1), 4);
        Check.equal("!maj", x.drop(0), 4);
        Check.equal("none is left", x.count(1), 0);
        Check.equal("no nodes", x.count(2), 0);
        for (int f : new int[] {-1, 0, 12, Integer.MIN_VALUE, Integer.MAX_VALUE}) {
            Check.raises("drop", IndexOutOfBoundsException.class, () -> x.drop(f));
        }
        Check.equal("changes", x.count(6), 6);
        x.undo();
        Check.equal("undone", Texts.values(x, 0), "11101000");
        x.undo();
        x.undo();
        Check.equal("undone", Texts.find(x, "odd"), 0);
        DecisionDiagrams y = Texts.system("vars a b;let f 1;let g a;");
        Check.equal("a function without nodes", y.drop(0), 0);
        Check.equal("a", y.drop(0), 1);
    }

    /** A 13th function is refused, behind all other reasons. */
    private static void fullHouse() {
        DecisionDiagrams x = four();
        for (int number = 4; number < 12; number++) {
            Check.equal("negate", x.negate(number - 1), number);
        }
        Class<IllegalStateException> full = IllegalStateException.class;
        Check.raises("combine", full, () -> x.combine(0, 0, 11));
        Check.raises("choose", full, () -> x.choose(0, 1, 2));
        Check.raises("negate", full, () -> x.negate(0));
        Check.raises("restrict", full, () -> x.restrict(0, 0, true));
        Check.raises("quantify", full, () -> x.quantify(0, 0, true));
        Check.raises("compose", full, () -> x.compose(0, 0, 0));
        Class<IndexOutOfBoundsException> missing = IndexOutOfBoundsException.class;
        Check.raises("combine", missing, () -> x.combine(0, 0, 12));
        Check.raises("combine", IllegalArgumentException.class, () -> x.combine(6, 0, 0));
        Check.raises("choose", missing, () -> x.choose(0, 12, 2));
        Check.raises("negate", missing, () -> x.negate(12));
        Check.raises("restrict", missing, () -> x.restrict(0, 3, true));
        Check.raises("quantify", missing, () -> x.quantify(0, 3, true));
        Check.raises("compose", missing, () -> x.compose(0, 3, 0));
        Check.equal("functions", x.count(1), 12);
        Check.equal("changes", x.count(6), 8);
        Check.equal("the last one", Texts.values(x, 11), Texts.values(x, 3));
        x.drop(0);
        Check.equal("there is room again", x.combine(5, 0, 1), 11);
    }
}
