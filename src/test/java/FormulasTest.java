import java.util.function.IntUnaryOperator;

/** Terms 3, for the promises 4 and 47: the values of formulas, and what binds more. */
final class FormulasTest {
    private static final String A = "01010101";
    private static final String NOT_A = "10101010";

    public static void main(String[] args) {
        formula("0", "00000000");
        formula("1", "11111111");
        formula("a", A);
        formula("b", "00110011");
        formula("c", "00001111");
        formula("maj", "00010111");
        formula("odd", "01101001");
        formula("!a", NOT_A);
        formula("!!a", A);
        formula("a&b", "00010001");
        formula("a|b", "01110111");
        formula("a^b", "01100110");
        formula("a>b", "10111011");
        formula("a=b", "10011001");
        formula("(a)", A);
        formula("if(a,b,c)", "00011011");
        formula("if(c,0,a)", "01010000");
        formula("if(a=b,b=c,c>a)", "11100101");
        bindings();
        quantifiers();
        eightVariables();
        namesThatAreCommands();
        Check.finish("FormulasTest");
    }

    private static void formula(String formula, String values) {
        DecisionDiagrams x = new DecisionDiagrams();
        Check.equal("script", Texts.script(x, "let f " + formula + ";"), 1);
        Check.equal(formula, Texts.values(x, 2), values);
    }

    private static void equal(String formula, String other) {
        DecisionDiagrams x = new DecisionDiagrams();
        Texts.script(x, "let f " + formula + ";let g " + other + ";");
        Check.equal(formula + " is " + other, x.same(2, 3), true);
    }

    private static void different(String formula, String other) {
        DecisionDiagrams x = new DecisionDiagrams();
        Texts.script(x, "let f " + formula + ";let g " + other + ";");
        Check.equal(formula + " is not " + other, x.same(2, 3), false);
    }

    private static void bindings() {
        equal("a|b&c", "a|(b&c)");
        different("a|b&c", "(a|b)&c");
        equal("a&b|c", "(a&b)|c");
        equal("a^b&c", "a^(b&c)");
        different("a^b&c", "(a^b)&c");
        equal("a|b^c", "a|(b^c)");
        different("a|b^c", "(a|b)^c");
        equal("a^b|c", "(a^b)|c");
        equal("a>b|c", "a>(b|c)");
        different("a>b|c", "(a>b)|(!c)");
        equal("a|b>c", "(a|b)>c");
        different("a|b>c", "a|(b>c)");
        equal("a=b>c", "a=(b>c)");
        different("a=b>c", "(a=b)>c");
        equal("a>b=c", "(a>b)=c");
        different("a>b=c", "a>(b=c)");
        equal("!a&b", "(!a)&b");
        different("!a&b", "!(a&b)");
        equal("!a=b", "(!a)=b");
        equal("a=b=c", "(a=b)=c");
        equal("a^b^c", "odd");
        equal("a&b&c", "if(a,b&c,0)");
        equal("a|b|c", "!(!a&!b&!c)");
        equal("a=b=c=a=b", "c");
    }

    private static void quantifiers() {
        formula("all a a", "00000000");
        formula("some a a", "11111111");
        formula("all a b", "00110011");
        formula("some b (a&b)", A);
        formula("all b (a|b)", A);
        formula("all c (a=b)", "10011001");
        formula("some a some b (a&b&c)", "00001111");
        formula("all a some b (a^b)", "11111111");
        formula("some a all b (a^b)", "00000000");
        equal("all a maj", "b&c");
        equal("some a maj", "b|c");
        equal("some a b&a", "(some a b)&a");
        different("some a b&a", "some a (b&a)");
        equal("!some a maj", "!(b|c)");
        equal("some a !maj", "!(b&c)");
        equal("some c if(c,a,b)", "a|b");
    }

    /** The seventh and the eighth variable, too. */
    private static void eightVariables() {
        ofEight("a^b^c^d^e^f^g^h", assignment -> Integer.bitCount(assignment) & 1);
        ofEight("all h (g|h)", assignment -> assignment >> 6 & 1);
        ofEight("some g (g&h&a)", assignment -> assignment >> 7 & assignment & 1);
        ofEight("if(h,g,f)", assignment -> assignment >> (assignment > 127 ? 6 : 5) & 1);
        ofEight("all g some h (h^g)", assignment -> 1);
        ofEight("!h>g", assignment -> assignment > 63 ? 1 : 0);
        DecisionDiagrams y = Texts.system("vars a b c d e f g;let p all g (g|f);let q g^a;");
        Check.equal("models with 7 variables", y.function(0, 2), 64);
        Check.equal("models with 7 variables", y.function(1, 2), 64);
        Check.equal("support with 7 variables", y.support(1), 65);
    }

    private static void ofEight(String formula, IntUnaryOperator due) {
        DecisionDiagrams x = Texts.system("vars a b c d e f g h;let p " + formula + ";");
        for (int assignment = 0; assignment < 256; assignment++) {
            Check.equal(formula, x.value(0, assignment), due.applyAsInt(assignment));
        }
    }

    private static void namesThatAreCommands() {
        DecisionDiagrams x = Texts.system("vars let cost;let vars let&cost;let drop !vars;cost cost 5;");
        Check.equal("vars", Texts.values(x, 0), "0001");
        Check.equal("drop", Texts.values(x, 1), "1110");
        Check.equal("cost of cost", x.variable(1, 1), 5);
        Check.equal("statements", Texts.script(x, "drop drop;let swap vars;sift let;siftall;move cost 0;"), 5);
        Check.equal("swap", Texts.find(x, "swap"), 1);
        Check.equal("order", Texts.order(x), "cost,let");
    }
}
