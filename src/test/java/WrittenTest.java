import java.util.Map;
import java.util.TreeMap;

/** Promises 51 to 53: written texts. */
final class WrittenTest {
    public static void main(String[] args) {
        writeFunction();
        writeOrder();
        textByte();
        longNumbers();
        Check.finish("WrittenTest");
    }

    /** Promise 51. */
    private static void writeFunction() {
        DecisionDiagrams x = new DecisionDiagrams();
        Check.equal("length", x.writeFunction(0), 33);
        Check.equal("maj", Texts.function(x, 0), "2;2:a 3,5;3:b 0,4;4:c 0,1;5:b 4,1");
        Check.equal("odd", Texts.function(x, 1), "6;4:c 0,1;6:a 7,9;7:b 4,8;8:c 1,0;9:b 8,4");
        x.swap(0);
        Check.equal("with another order", Texts.function(x, 0), "2;2:b 3,5;3:a 0,4;4:c 0,1;5:a 4,1");
        DecisionDiagrams y = Texts.system("vars abcdefg let;let f 0;let g 1;let h let;let i abcdefg=let;");
        Check.equal("0", Texts.function(y, 0), "0");
        Check.equal("1", Texts.function(y, 1), "1");
        Check.equal("let", Texts.function(y, 2), "2;2:let 0,1");
        Check.equal("abcdefg=let", Texts.function(y, 3), "3;2:let 0,1;3:abcdefg 4,2;4:let 1,0");
        for (int f : new int[] {-1, 4, 12, Integer.MIN_VALUE, Integer.MAX_VALUE}) {
            Check.raises("writeFunction", IndexOutOfBoundsException.class, () -> y.writeFunction(f));
        }
        Check.equal("what was written stays", Texts.written(y, 11), "3;2:let 0,1");
    }

    /** Promise 52. */
    private static void writeOrder() {
        DecisionDiagrams x = Texts.system("vars a bcd abcdefg;");
        Check.equal("length", x.writeOrder(), 13);
        Check.equal("order", Texts.order(x), "a,bcd,abcdefg");
        x.move(2, 0);
        Check.equal("order", Texts.order(x), "abcdefg,a,bcd");
        Check.equal("one variable", Texts.order(Texts.system("vars z;")), "z");
        Check.equal("eight variables", Texts.order(Texts.system("vars h g f e d c b a;")), "h,g,f,e,d,c,b,a");
    }

    /** Promise 53. */
    private static void textByte() {
        DecisionDiagrams x = new DecisionDiagrams();
        for (int index : new int[] {-1, 0, 1, Integer.MIN_VALUE, Integer.MAX_VALUE}) {
            Check.raises("no text was written", IndexOutOfBoundsException.class, () -> x.textByte(index));
        }
        x.writeFunction(0);
        Check.equal("the first byte", x.textByte(0), 50);
        Check.equal("a semicolon", x.textByte(1), 59);
        Check.equal("a colon", x.textByte(3), 58);
        Check.equal("a letter", x.textByte(4), 97);
        Check.equal("a space", x.textByte(5), 32);
        Check.equal("a comma", x.textByte(7), 44);
        Check.equal("the last byte", x.textByte(32), 49);
        Check.raises("behind the last byte", IndexOutOfBoundsException.class, () -> x.textByte(33));
        Check.raises("ahead of the first byte", IndexOutOfBoundsException.class, () -> x.textByte(-1));
        x.swap(0);
        Check.equal("a change leaves the text", x.textByte(4), 97);
        x.writeOrder();
        Check.equal("the text is another one", x.textByte(0), 98);
        Check.equal("the last byte", x.textByte(4), 99);
        Check.raises("it is shorter", IndexOutOfBoundsException.class, () -> x.textByte(5));
    }

    /** Six functions with more than 110 nodes. */
    private static DecisionDiagrams large() {
        DecisionDiagrams x = Texts.system("vars a b c d e f g h;");
        Texts.script(x, "let z (a&b^c&d^e&f^g&h)|(a&d&g)^(b&e&h)^(c&f&a)^(d&g&b);let y if(z,a^h,b&g|c&e);"
                + "let x if(y,z&c,!z^d&f);let w if(a^z,x|b,y&!c^h);let v if(c^h,w^a,x^y);let u if(g,v^z,w&b|x&d);");
        return x;
    }

    /** Numbers of nodes of two and three digits. */
    static void longNumbers() {
        int size = large().count(2);
        Check.report(size > 110, "the diagram has " + size + " nodes, more than 110 are wanted");
        for (int f = 0; f < 6; f++) {
            DecisionDiagrams x = large();
            Map<Integer, String> nodes = new TreeMap<>();
            reach(x, x.function(f, 0), nodes);
            Check.equal("function " + f, longText(f), x.function(f, 0) + String.join("", nodes.values()));
        }
    }

    private static void reach(DecisionDiagrams x, int node, Map<Integer, String> nodes) {
        if (node > 1 && !nodes.containsKey(node)) {
            int low = x.node(node, 1);
            int high = x.node(node, 2);
            nodes.put(node, ";" + node + ":" + (char) ('a' + x.node(node, 0)) + " " + low + "," + high);
            reach(x, low, nodes);
            reach(x, high, nodes);
        }
    }

    /** The text of a function, from objects that are asked for 400 bytes each. */
    private static String longText(int f) {
        StringBuilder text = new StringBuilder();
        int length = large().writeFunction(f);
        while (text.length() < length) {
            DecisionDiagrams x = large();
            x.writeFunction(f);
            int end = Math.min(length, text.length() + 400);
            for (int index = text.length(); index < end; index++) {
                text.append((char) x.textByte(index));
            }
        }
        return text.toString();
    }
}
