/** Promise 1: what a new object holds. */
final class NewObjectTest {
    public static void main(String[] args) {
        DecisionDiagrams x = new DecisionDiagrams();
        Check.equal("NONE", DecisionDiagrams.NONE, -1);
        Check.equal("variables", x.count(0), 3);
        Check.equal("functions", x.count(1), 2);
        Check.equal("order", Texts.order(x), "a,b,c");
        Check.equal("maj", Texts.values(x, 0), "00010111");
        Check.equal("odd", Texts.values(x, 1), "01101001");
        Check.equal("maj is named", Texts.find(x, "maj"), 0);
        Check.equal("odd is named", Texts.find(x, "odd"), 1);
        for (int variable = 0; variable < 3; variable++) {
            Check.equal("level of " + variable, x.variable(variable, 0), variable);
            Check.equal("cost of " + variable, x.variable(variable, 1), 0);
            Check.equal("percentage of " + variable, x.variable(variable, 2), 50);
        }
        DecisionDiagrams fresh = new DecisionDiagrams();
        Check.equal("the buffer is empty", fresh.truncate(0), 0);
        Check.raises("truncate(1)", IllegalArgumentException.class, () -> fresh.truncate(1));
        Check.equal("the first append", fresh.append(0, 0, 0, 0, 0), 20);
        Check.equal("changes to undo", fresh.count(6), 0);
        Check.raises("undo", IllegalStateException.class, fresh::undo);
        Check.raises("restore(0)", IllegalStateException.class, () -> fresh.restore(0));
        Check.raises("restore(1)", IllegalStateException.class, () -> fresh.restore(1));
        Check.raises("textByte(0)", IndexOutOfBoundsException.class, () -> fresh.textByte(0));
        Check.equal("errorCode", fresh.errorCode(), 0);
        Check.equal("errorPosition", fresh.errorPosition(), DecisionDiagrams.NONE);
        Check.finish("NewObjectTest");
    }
}
