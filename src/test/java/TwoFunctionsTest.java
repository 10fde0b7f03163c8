/** Promises 24 to 30: two functions. */
final class TwoFunctionsTest {
    private static final int[] NO_FUNCTIONS = {-1, 7, 12, Integer.MIN_VALUE, Integer.MAX_VALUE};

    public static void main(String[] args) {
        same();
        implies();
        difference();
        twin();
        common();
        pairs();
        pairsWithAnotherOrder();
        sizeOf();
        missing();
        Check.finish("TwoFunctionsTest");
    }

    /** 0 to 6: a&b, a|b, b&a, 0, 1, c, a^b^c. */
    private static DecisionDiagrams seven() {
        return Texts.system("vars a b c;let f a&b;let g a|b;let h b&a;let i 0;let j 1;let k c;let l a^b^c;");
    }

    /** Promise 24. */
    private static void same() {
        DecisionDiagrams x = seven();
        for (int f = 0; f < 7; f++) {
            for (int g = 0; g < 7; g++) {
                Check.equal("same(" + f + ", " + g + ")", x.same(f, g), f == g || f + g == 2 && f * g == 0);
            }
        }
        DecisionDiagrams eight = Texts.system("vars a b c d e f g h;let i h&g&a;let j h&g&b;let k g&h&a;");
        Check.equal("a and b", eight.same(0, 1), false);
        Check.equal("g and h", eight.same(0, 2), true);
    }

    /** Promise 25. */
    private static void implies() {
        for (int f = 0; f < 7; f++) {
            DecisionDiagrams x = seven();
            for (int g = 0; g < 7; g++) {
                boolean all = Texts.values(x, f).equals(and(Texts.values(x, f), Texts.values(x, g)));
                Check.equal("implies(" + f + ", " + g + ")", x.implies(f, g), all);
            }
        }
        DecisionDiagrams x = seven();
        Check.equal("a&b implies a|b", x.implies(0, 1), true);
        Check.equal("a|b does not imply a&b", x.implies(1, 0), false);
        Check.equal("a&b implies b&a", x.implies(0, 2), true);
        Check.equal("0 implies 0", x.implies(3, 3), true);
        Check.equal("0 implies c", x.implies(3, 5), true);
        Check.equal("c does not imply 0", x.implies(5, 3), false);
        Check.equal("c implies 1", x.implies(5, 4), true);
        Check.equal("1 does not imply c", x.implies(4, 5), false);
    }

    private static String and(String a, String b) {
        StringBuilder both = new StringBuilder();
        for (int i = 0; i < a.length(); i++) {
            both.append(a.charAt(i) == '1' && b.charAt(i) == '1' ? '1' : '0');
        }
        return both.toString();
    }

    /** Promise 26. */
    private static void difference() {
        DecisionDiagrams x = seven();
        Check.equal("a&b and a|b", x.difference(0, 1), 1);
        Check.equal("a|b and a&b", x.difference(1, 0), 1);
        Check.equal("a&b and b&a", x.difference(0, 2), -1);
        Check.equal("c and c", x.difference(5, 5), -1);
        Check.equal("a&b and 0", x.difference(0, 3), 3);
        Check.equal("c and 0", x.difference(5, 3), 4);
        Check.equal("c and 1", x.difference(5, 4), 0);
        Check.equal("0 and 1", x.difference(3, 4), 0);
        Check.equal("a|b and a^b^c", x.difference(1, 6), 3);
        DecisionDiagrams eight = Texts.system("vars a b c d e f g h;let i h&a;let j h&(a|g);");
        Check.equal("h and g", eight.difference(0, 1), 192);
    }

    /** Promise 27. */
    private static void twin() {
        DecisionDiagrams x = seven();
        int[] due = {2, -1, 0, -1, -1, -1, -1};
        for (int f = 0; f < 7; f++) {
            Check.equal("twin(" + f + ")", x.twin(f), due[f]);
        }
        x.combine(0, 0, 2);
        Check.equal("twin of the first", x.twin(0), 2);
        Check.equal("twin of the second", x.twin(2), 0);
        Check.equal("twin of the third", x.twin(7), 0);
        x.drop(0);
        Check.equal("twin then", x.twin(1), 6);
        Check.equal("twin then", x.twin(6), 1);
    }

    /** Promise 28. */
    private static void common() {
        DecisionDiagrams x = seven();
        Check.equal("a&b and a|b", x.common(0, 1), 1);
        Check.equal("a&b and b&a", x.common(0, 2), 2);
        Check.equal("a&b and a&b", x.common(0, 0), 2);
        Check.equal("a&b and 0", x.common(0, 3), 0);
        Check.equal("0 and 1", x.common(3, 4), 0);
        Check.equal("c and a^b^c", x.common(5, 6), 1);
        Check.equal("a^b^c and c", x.common(6, 5), 1);
        Check.equal("a^b^c itself", x.common(6, 6), 5);
        Check.equal("maj and odd", new DecisionDiagrams().common(0, 1), 1);
    }

    /** Promise 29. */
    private static void pairs() {
        DecisionDiagrams x = seven();
        Check.equal("0 and 1", x.pairs(3, 4), 1);
        Check.equal("1 and 1", x.pairs(4, 4), 1);
        Check.equal("c and c", x.pairs(5, 5), 3);
        Check.equal("c and 0", x.pairs(5, 3), 3);
        Check.equal("0 and c", x.pairs(3, 5), 3);
        Check.equal("a&b and b&a", x.pairs(0, 2), 4);
        // the roots, (0, b) and (b, 1), then (0, 0), (0, 1) and (1, 1)
        Check.equal("a&b and a|b", x.pairs(0, 1), 6);
        Check.equal("a|b and a&b", x.pairs(1, 0), 6);
        // the roots, (0, c) and (b, c), (1, c), then (0, 0), (0, 1), (1, 0) and (1, 1)
        Check.equal("a&b and c", x.pairs(0, 5), 8);
        Check.equal("maj and odd", new DecisionDiagrams().pairs(0, 1), 10);
    }

    private static void pairsWithAnotherOrder() {
        DecisionDiagrams x = seven();
        x.move(2, 0);
        // the roots, (a&b, 0) and (a&b, 1), (0, 0) and (b, 0), (0, 1) and (b, 1), (1, 0) and (1, 1)
        Check.equal("a&b and c, with c first", x.pairs(0, 5), 9);
        // the roots, (0, b) and (1, b), then the four pairs of leaves
        DecisionDiagrams y = Texts.system("vars a b;let f a;let g b;");
        Check.equal("a and b", y.pairs(0, 1), 7);
        Check.equal("b and a", y.pairs(1, 0), 7);
    }

    /** Promise 30. */
    private static void sizeOf() {
        DecisionDiagrams x = seven();
        // a&b, a|b, a^b, 1, a=b, 0
        int[] due = {2, 2, 3, 0, 3, 0};
        for (int operator = 0; operator < 6; operator++) {
            Check.equal("sizeOf(" + operator + ", 0, 1)", x.sizeOf(operator, 0, 1), due[operator]);
        }
        Check.equal("(a|b)>(a&b)", x.sizeOf(3, 1, 0), 3);
        Check.equal("(a|b)&!(a&b)", x.sizeOf(5, 1, 0), 3);
        Check.equal("c&c", x.sizeOf(0, 5, 5), 1);
        Check.equal("c^c", x.sizeOf(2, 5, 5), 0);
        Check.equal("nothing is added", x.count(1), 7);
        Check.equal("no change", x.count(6), 0);
        for (int operator = 0; operator < 6; operator++) {
            int size = x.sizeOf(operator, 6, 1);
            int made = x.combine(operator, 6, 1);
            Check.equal("size as for combine", x.function(made, 1), size);
            x.undo();
        }
        for (int more = 0; more < 5; more++) {
            x.negate(0);
        }
        Check.equal("with 12 functions", x.sizeOf(0, 0, 5), 3);
        Check.equal("still 12", x.count(1), 12);
        DecisionDiagrams y = Texts.system("vars a b c d;let f a&c;let g b&d;");
        Check.equal("a&c|b&d", y.sizeOf(1, 0, 1), 6);
        y.move(1, 2);
        Check.equal("with another order", y.sizeOf(1, 0, 1), 4);
    }

    private static void missing() {
        DecisionDiagrams x = seven();
        for (int f : NO_FUNCTIONS) {
            Class<IndexOutOfBoundsException> due = IndexOutOfBoundsException.class;
            Check.raises("same", due, () -> x.same(f, 0));
            Check.raises("same", due, () -> x.same(0, f));
            Check.raises("implies", due, () -> x.implies(f, 0));
            Check.raises("implies", due, () -> x.implies(0, f));
            Check.raises("difference", due, () -> x.difference(f, 0));
            Check.raises("difference", due, () -> x.difference(0, f));
            Check.raises("twin", due, () -> x.twin(f));
            Check.raises("common", due, () -> x.common(f, 0));
            Check.raises("common", due, () -> x.common(0, f));
            Check.raises("pairs", due, () -> x.pairs(f, 0));
            Check.raises("pairs", due, () -> x.pairs(0, f));
            Check.raises("sizeOf", due, () -> x.sizeOf(0, f, 0));
            Check.raises("sizeOf", due, () -> x.sizeOf(0, 0, f));
            Check.raises("sizeOf, operator too", due, () -> x.sizeOf(6, 0, f));
        }
        for (int operator : new int[] {-1, 6, Integer.MIN_VALUE, Integer.MAX_VALUE}) {
            Check.raises("sizeOf", IllegalArgumentException.class, () -> x.sizeOf(operator, 0, 1));
        }
    }
}
