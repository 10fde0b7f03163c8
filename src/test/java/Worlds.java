/**
 * Objects for tests of boundaries. In each of them something is saved in slot 0, there are three changes to undo (in
 * busy four), an error is reported, a text is written, and the buffer holds a script of 23 bytes: what a refused call may
 * not touch is there.
 */
final class Worlds {
    private static final String TEN = "let c a;let d b;let e a&b;let f a|b;let g a^b;let h !a;let i !b;let j 0;let k 1;"
            + "let l a=b;";

    private Worlds() {
    }

    /**
     * Four functions; the last one has no name. The order is b, c, d, a, and the diagram is 2:b 3,4; 3:c 0,1; 4:c 5,1;
     * 5:a 0,1; 6:c 7,8; 7:d 0,1; 8:d 1,0; 9:b 10,11; 10:c 1,0; 11:c 12,0; 12:a 1,0.
     */
    static DecisionDiagrams busy() {
        DecisionDiagrams x = Texts.system("vars a b c d;let f a&b|c;let g c^d;let one 1;");
        x.negate(0);
        return furnished(x);
    }

    /** No function at all. */
    static DecisionDiagrams none() {
        return furnished(Texts.system("vars a b;"));
    }

    /** One variable and its function. */
    static DecisionDiagrams one() {
        return furnished(Texts.system("vars a;let f a;"));
    }

    /** Eight variables and two functions. */
    static DecisionDiagrams eight() {
        return furnished(Texts.system("vars a b c d e f g h;let x a&h|b&g;let y c^d^e^f;"));
    }

    /** Room for one more function. */
    static DecisionDiagrams eleven() {
        return furnished(Texts.system("vars a b;" + TEN + "let m a>b;"));
    }

    /** Room for none. */
    static DecisionDiagrams full() {
        return furnished(Texts.system("vars a b;" + TEN + "let m a>b;let n b>a;"));
    }

    private static DecisionDiagrams furnished(DecisionDiagrams x) {
        x.save(0);
        x.setCost(0, 9);
        x.setPercent(0, 20);
        x.move(0, x.count(0) - 1);
        Texts.put(x, "cost q 1;");
        try {
            x.script();
        } catch (IllegalArgumentException e) {
            x.writeOrder();
        }
        Texts.put(x, "cost a 33;percent a 44;");
        return x;
    }
}
