/** Promises 2 to 6: the input buffer, load, and the reported error. */
final class InputTest {
    private static final int SPACES = 0x20202020;

    public static void main(String[] args) {
        append();
        truncate();
        load();
        loadForgets();
        loadWithAnError();
        reportedError();
        Check.finish("InputTest");
    }

    /** Promise 2. */
    private static void append() {
        DecisionDiagrams x = new DecisionDiagrams();
        Check.equal("append", x.append(0x76617273, 0x20612062, 0x20633b6c, 0x65742066, 0x20616263), 20);
        Check.equal("append again", x.append(0x3b202020, SPACES, SPACES, SPACES, SPACES), 40);
        Check.raises("vars a b c;let f abc;", IllegalArgumentException.class, x::load);
        Check.equal("abc is unknown", x.errorCode(), 3);
        Check.equal("the bytes stand in their order", x.errorPosition(), 17);
        for (int length = 20; length <= 600; length += 20) {
            Check.equal("append", x.append(-1, 0, 0x80000000, SPACES, Integer.MAX_VALUE), length);
        }
        Check.raises("append at 600", IllegalStateException.class, () -> x.append(1, 2, 3, 4, 5));
        Check.equal("the length stays", x.truncate(600), 600);
        x.truncate(581);
        Check.raises("append at 581", IllegalStateException.class, () -> x.append(1, 2, 3, 4, 5));
        x.truncate(580);
        Check.equal("append at 580", x.append(1, 2, 3, 4, 5), 600);
        bytesAbove127();
    }

    private static void bytesAbove127() {
        DecisionDiagrams x = new DecisionDiagrams();
        x.append(0x6d616aff, SPACES, SPACES, SPACES, SPACES);
        x.truncate(4);
        Check.raises("maj and byte 255", java.util.NoSuchElementException.class, x::find);
        x.truncate(3);
        Check.equal("maj", x.find(), 0);
        Check.raises("maj alone is no script", IllegalArgumentException.class, x::script);
        Texts.put(x, "swap 0;\u00ff");
        Check.raises("swap and byte 255", IllegalArgumentException.class, x::script);
        Check.equal("byte 255 is a token", x.errorPosition(), 7);
    }

    /** Promise 3. */
    private static void truncate() {
        DecisionDiagrams x = new DecisionDiagrams();
        Texts.put(x, "odd maj");
        Check.raises("truncate(8)", IllegalArgumentException.class, () -> x.truncate(8));
        Check.raises("truncate(-1)", IllegalArgumentException.class, () -> x.truncate(-1));
        Check.raises("truncate(far)", IllegalArgumentException.class, () -> x.truncate(Integer.MAX_VALUE));
        Check.raises("truncate(-far)", IllegalArgumentException.class, () -> x.truncate(Integer.MIN_VALUE));
        Check.equal("truncate(7)", x.truncate(7), 7);
        Check.equal("truncate(3)", x.truncate(3), 3);
        Check.equal("the first bytes stay", x.find(), 1);
        Check.raises("what is cut is gone", IllegalArgumentException.class, () -> x.truncate(4));
        Check.equal("truncate(0)", x.truncate(0), 0);
    }

    /** Promise 4. */
    private static void load() {
        DecisionDiagrams x = new DecisionDiagrams();
        Check.equal("load", Texts.load(x, "vars q p;let f p&q;let g f^1;let h g=f;cost p 7;percent q 0;"), 3);
        Check.equal("the buffer is empty then", x.truncate(0), 0);
        Check.raises("an empty buffer", IllegalArgumentException.class, () -> x.truncate(1));
        Check.equal("variables", x.count(0), 2);
        Check.equal("order", Texts.order(x), "q,p");
        Check.equal("f", Texts.values(x, 0), "0001");
        Check.equal("g", Texts.values(x, 1), "1110");
        Check.equal("h", Texts.values(x, 2), "0000");
        Check.equal("cost of q", x.variable(0, 1), 0);
        Check.equal("cost of p", x.variable(1, 1), 7);
        Check.equal("percentage of q", x.variable(0, 2), 0);
        Check.equal("percentage of p", x.variable(1, 2), 50);
        Check.equal("no functions", Texts.load(x, " \n vars\na ; \n"), 0);
        Check.equal("size", x.count(2), 0);
        Check.equal("12 functions", Texts.load(x, "vars a;let b a;let c a;let d a;let e a;let f a;let g a;let h a;"
                + "let i a;let j a;let k a;let l a;let m !a;"), 12);
        Check.equal("the last one", Texts.values(x, 11), "10");
        Check.equal("8 variables", Texts.load(x, "vars a b c d e f g h;let z h;"), 1);
        Check.equal("h", x.support(0), 128);
        Check.equal("more than 30 statements", Texts.load(x, "vars a;" + "cost a 1;".repeat(31) + "cost a 2;"), 0);
        Check.equal("the last cost", x.variable(0, 1), 2);
    }

    private static void loadForgets() {
        DecisionDiagrams x = new DecisionDiagrams();
        x.save(0);
        x.save(1);
        x.setCost(0, 3);
        x.writeOrder();
        Texts.load(x, "vars a;");
        Check.equal("changes to undo", x.count(6), 0);
        Check.raises("undo", IllegalStateException.class, x::undo);
        Check.raises("restore(0)", IllegalStateException.class, () -> x.restore(0));
        Check.raises("restore(1)", IllegalStateException.class, () -> x.restore(1));
        Check.equal("costs are 0 again", x.variable(0, 1), 0);
        Check.equal("the written text stays", Texts.written(x, 5), "a,b,c");
    }

    private static void loadWithAnError() {
        DecisionDiagrams x = new DecisionDiagrams();
        x.save(1);
        x.setCost(0, 3);
        x.writeOrder();
        Texts.put(x, "vars z;let f z;cost z 5;let f z;");
        Check.raises("f twice", IllegalArgumentException.class, x::load);
        Check.equal("code", x.errorCode(), 4);
        Check.equal("position", x.errorPosition(), 28);
        Check.equal("the buffer is empty", x.append(0, 0, 0, 0, 0), 20);
        Check.equal("variables", x.count(0), 3);
        Check.equal("functions", x.count(1), 2);
        Check.equal("cost", x.variable(0, 1), 3);
        Check.equal("changes to undo", x.count(6), 1);
        Check.equal("the written text stays", Texts.written(x, 5), "a,b,c");
        Check.equal("undo", x.undo(), 0);
        Check.equal("restore", x.restore(1), 8);
        Check.equal("maj", Texts.values(x, 0), "00010111");
    }

    /** Promises 5 and 6. */
    private static void reportedError() {
        DecisionDiagrams x = new DecisionDiagrams();
        Texts.put(x, "cost q 1;");
        Check.raises("no variable q", IllegalArgumentException.class, x::script);
        Check.equal("code after script", x.errorCode(), 3);
        Check.equal("position after script", x.errorPosition(), 5);
        x.setCost(0, 1);
        x.undo();
        Check.raises("another exception", IndexOutOfBoundsException.class, () -> x.setCost(9, 1));
        Check.equal("the code stays", x.errorCode(), 3);
        Check.equal("the position stays", x.errorPosition(), 5);
        Texts.script(x, "cost a 1;");
        Check.equal("code after a right script", x.errorCode(), 0);
        Check.equal("position after a right script", x.errorPosition(), -1);
        Texts.put(x, "var");
        Check.raises("no vars", IllegalArgumentException.class, x::load);
        Check.equal("code after load", x.errorCode(), 1);
        Check.equal("position after load", x.errorPosition(), 0);
        Texts.load(x, "vars a;");
        Check.equal("code after a right system", x.errorCode(), 0);
        Check.equal("position after a right system", x.errorPosition(), -1);
    }
}
