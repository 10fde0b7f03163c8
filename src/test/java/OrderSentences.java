/** Promises 31 to 33 and 41 to 44, sentence by sentence: orders, swaps, moves and sifting. */
final class OrderSentences {
    private static final String VARIABLE = "- `variable`: number of a variable";
    private static final String LEVEL = "- `level`: number of a level";
    private static final String NO_VARIABLE = "Throws `IndexOutOfBoundsException` if there is no such variable";
    private static final String NEITHER = "Throws `IndexOutOfBoundsException` if there is no such variable or level";
    private static final String SIZE_THEN = "Returns the size of the diagram then.";
    /** The size is 6 where each variable stands beside its partner (a and b, c and d, e and f), at most 14. */
    private static final String PARTNERS = "vars a c e b d f;let g a&b|c&d|e&f;";
    private static final String EIGHT = "vars a b c d e f g h;";

    interface OfTwo {
        void on(DecisionDiagrams x, int variable, int level);
    }

    private OrderSentences() {
    }

    static void all() {
        sizeIf();
        bestLevel();
        width();
        swap();
        move();
        sift();
        siftAll();
        siftAllSequence();
    }

    private static DecisionDiagrams partners() {
        return Texts.system(PARTNERS);
    }

    /** The words on a variable and a level that sizeIf and move have in common. */
    private static void numbers(OfTwo call) {
        Holds.holds(VARIABLE, () -> {
            Edges.variablesThere("variable", (x, variable) -> call.on(x, variable, 0));
            Edges.variablesThere("variable, to the last level",
                    (x, variable) -> call.on(x, variable, x.count(0) - 1));
        });
        Holds.holds(LEVEL, () -> {
            Edges.variablesThere("level", (x, level) -> call.on(x, 0, level));
            Edges.variablesThere("level of the last variable", (x, level) -> call.on(x, x.count(0) - 1, level));
        });
        Holds.holds(NEITHER, () -> {
            Edges.noVariable("variable", (x, variable) -> call.on(x, variable, 0));
            Edges.noVariable("level", (x, level) -> call.on(x, 0, level));
            Edges.noVariable("variable and level", (x, both) -> call.on(x, both, both));
        });
    }

    private static void sizeIf() {
        Holds.promise(31);
        Holds.holds("Returns the size that the diagram would have if a variable was moved to a level (see move).", () -> {
            for (int variable = 0; variable < 6; variable++) {
                for (int level = 0; level < 6; level++) {
                    DecisionDiagrams x = partners();
                    int size = x.sizeIf(variable, level);
                    Check.equal("as for move", x.move(variable, level), size);
                }
            }
            DecisionDiagrams x = Worlds.busy();
            String before = Seen.STATE.of(x);
            x.sizeIf(0, 0);
            Check.equal("nothing is moved", Seen.STATE.of(x), before);
        });
        numbers(DecisionDiagrams::sizeIf);
        Holds.holds("Returns the size.", () -> {
            DecisionDiagrams x = partners();
            int[] ofB = {8, 8, 10, 14, 14, 14};
            for (int level = 0; level < 6; level++) {
                Check.equal("b at level " + level, x.sizeIf(3, level), ofB[level]);
            }
            Check.equal("no function", Texts.system(EIGHT).sizeIf(0, 7), 0);
            Check.equal("one variable", Worlds.one().sizeIf(0, 0), 1);
        });
    }

    private static void bestLevel() {
        Holds.promise(32);
        Holds.holds("Returns the level to which sift would move a variable.", () -> {
            for (int variable = 0; variable < 6; variable++) {
                DecisionDiagrams x = partners();
                int level = x.bestLevel(variable);
                x.sift(variable);
                Check.equal("as for sift", x.variable(variable, 0), level);
            }
            DecisionDiagrams x = Worlds.busy();
            String before = Seen.STATE.of(x);
            x.bestLevel(0);
            Check.equal("nothing is moved", Seen.STATE.of(x), before);
        });
        Holds.holds(VARIABLE, () -> Edges.variablesThere("variable", DecisionDiagrams::bestLevel));
        Holds.holds("Returns the level.", () -> {
            Check.equal("the smallest of 0 and 1", partners().bestLevel(3), 0);
            Check.equal("one variable", Worlds.one().bestLevel(0), 0);
            DecisionDiagrams x = Texts.system(EIGHT);
            Check.equal("no function, the first variable", x.bestLevel(0), 0);
            Check.equal("no function, the last variable", x.bestLevel(7), 7);
        });
        Holds.holds(NO_VARIABLE, () -> Edges.noVariable("variable", DecisionDiagrams::bestLevel));
    }

    private static void width() {
        Holds.promise(33);
        Holds.holds("Counts the inner nodes at a level.", () -> {
            int[] due = {1, 2, 4, 4, 2, 1};
            DecisionDiagrams x = partners();
            for (int level = 0; level < 6; level++) {
                Check.equal("level " + level, x.width(level), due[level]);
            }
        });
        Holds.holds(LEVEL, () -> Edges.variablesThere("level", DecisionDiagrams::width));
        Holds.holds("Returns the number of inner nodes that test the variable at this level.", () -> {
            DecisionDiagrams x = Texts.system(EIGHT + "let i a^b^c^d^e^f^g^h;let j !i;");
            Check.equal("level 0", x.width(0), 2);
            Check.equal("level 7", x.width(7), 2);
            DecisionDiagrams y = Texts.system("vars a b;let c b;");
            Check.equal("no node at level 0", y.width(0), 0);
            Check.equal("a node at level 1", y.width(1), 1);
            y.swap(0);
            Check.equal("a node at level 0", y.width(0), 1);
            Check.equal("no node at level 1", y.width(1), 0);
            Check.equal("no function", Worlds.none().width(1), 0);
        });
        Holds.holds("Throws `IndexOutOfBoundsException` if there is no such level",
                () -> Edges.noVariable("level", DecisionDiagrams::width));
    }

    private static void swap() {
        Holds.promise(41);
        Holds.holds("Exchanges the variables at two neighbouring levels.", () -> {
            for (int level = 0; level < 7; level++) {
                DecisionDiagrams x = Texts.system(EIGHT);
                x.swap(level);
                for (int other = 0; other < 8; other++) {
                    int due = other == level ? level + 1 : other == level + 1 ? level : other;
                    Check.equal("variable at level " + other, x.variableAt(other), due);
                }
                x.swap(level);
                Check.equal("again", Texts.order(x), "a,b,c,d,e,f,g,h");
            }
        });
        Holds.holds("- `level`: the smaller level; the other one is 1 more", () -> {
            Edges.passes("level", 0, Worlds::full, DecisionDiagrams::swap);
            Edges.passes("level", 0, Worlds::busy, DecisionDiagrams::swap);
            Edges.passes("level", 2, Worlds::busy, DecisionDiagrams::swap);
            Edges.passes("level", 0, Worlds::eight, DecisionDiagrams::swap);
            Edges.passes("level", 6, Worlds::eight, DecisionDiagrams::swap);
        });
        Holds.holds(SIZE_THEN, () -> {
            DecisionDiagrams x = partners();
            Check.equal("b ahead of e", x.swap(2), 10);
            Check.equal("b ahead of c", x.swap(1), 8);
            Check.equal("b ahead of a", x.swap(0), 8);
            Check.equal("no function", Worlds.none().swap(0), 0);
        });
        Holds.holds("Throws `IndexOutOfBoundsException` if one of both levels does not exist", () -> {
            Class<IndexOutOfBoundsException> due = IndexOutOfBoundsException.class;
            Refused.outside("level", 0, -1, due, Worlds::one, DecisionDiagrams::swap);
            Refused.outside("level", 0, 0, due, Worlds::full, DecisionDiagrams::swap);
            Refused.outside("level", 0, 2, due, Worlds::busy, DecisionDiagrams::swap);
            Refused.outside("level", 0, 6, due, Worlds::eight, DecisionDiagrams::swap);
            Refused.refused("both are too high", due, Worlds::eight, x -> x.swap(8));
        });
    }

    private static void move() {
        Holds.promise(42);
        Holds.holds("Moves a variable to a level; the order of the other variables among themselves stays.", () -> {
            String others = "bcdefgh";
            for (int level = 0; level < 8; level++) {
                DecisionDiagrams x = Texts.system(EIGHT);
                x.move(0, level);
                String due = others.substring(0, level) + "a" + others.substring(level);
                Check.equal("a to level " + level, Texts.order(x).replace(",", ""), due);
                x.move(0, 0);
                Check.equal("and back", Texts.order(x).replace(",", ""), "abcdefgh");
                x.move(7, level);
                due = "abcdefg".substring(0, level) + "h" + "abcdefg".substring(level);
                Check.equal("h to level " + level, Texts.order(x).replace(",", ""), due);
            }
            DecisionDiagrams x = Texts.system(EIGHT);
            x.move(3, 5);
            Check.equal("d to level 5", Texts.order(x), "a,b,c,e,f,d,g,h");
            x.move(3, 1);
            Check.equal("d to level 1", Texts.order(x), "a,d,b,c,e,f,g,h");
        });
        numbers(DecisionDiagrams::move);
        Holds.holds(SIZE_THEN, () -> {
            DecisionDiagrams x = partners();
            Check.equal("to its level", x.move(3, 3), 14);
            Check.equal("up", x.move(3, 1), 8);
            Check.equal("down", x.move(2, 5), 6);
            Check.equal("no function", Worlds.none().move(0, 1), 0);
            Check.equal("one variable", Worlds.one().move(0, 0), 1);
        });
    }

    private static void sift() {
        Holds.promise(43);
        Holds.holds("Moves a variable to the level with which the size of the diagram is smallest", () -> {
            DecisionDiagrams x = Texts.system("vars a c b d;let f if(a,c,d)&b;");
            int least = Integer.MAX_VALUE;
            for (int level = 0; level < 4; level++) {
                least = Math.min(least, x.sizeIf(1, level));
            }
            Check.equal("c", x.sift(1), least);
            Check.equal("b between a and d", partners().sift(3), 8);
        });
        Holds.holds("; of several to its present level if it is one of these,", () -> {
            DecisionDiagrams x = Texts.system(EIGHT + "let i a^b^c^d^e^f^g^h;");
            for (int variable = 0; variable < 8; variable++) {
                x.sift(variable);
                Check.equal("all levels are as good", Texts.order(x), "a,b,c,d,e,f,g,h");
            }
            DecisionDiagrams y = Texts.system(EIGHT);
            y.sift(7);
            Check.equal("no function, the last level", Texts.order(y), "a,b,c,d,e,f,g,h");
            DecisionDiagrams z = Texts.system("vars a b c d e f;let g a&b|c&d|e&f;");
            z.sift(1);
            Check.equal("b is as good ahead of a", Texts.order(z), "a,b,c,d,e,f");
            DecisionDiagrams one = Worlds.one();
            one.sift(0);
            Check.equal("one variable", Texts.order(one), "a");
        });
        Holds.holds("otherwise to the smallest one of these.", () -> {
            DecisionDiagrams x = partners();
            x.sift(3);
            Check.equal("b ahead of a, not behind", Texts.order(x), "b,a,c,e,d,f");
            DecisionDiagrams y = partners();
            y.sift(2);
            Check.equal("e to level 4, not 5", Texts.order(y), "a,c,b,d,e,f");
        });
        Holds.holds(VARIABLE, () -> Edges.variablesThere("variable", DecisionDiagrams::sift));
        Holds.holds(SIZE_THEN, () -> {
            Check.equal("from 14", partners().sift(3), 8);
            Check.equal("it stays", new DecisionDiagrams().sift(0), 8);
            Check.equal("no function", Worlds.none().sift(1), 0);
            Check.equal("one variable", Worlds.one().sift(0), 1);
        });
        Holds.holds(NO_VARIABLE, () -> Edges.noVariable("variable", DecisionDiagrams::sift));
    }

    private static void siftAll() {
        Holds.promise(44);
        Holds.holds("Sifts all variables, one after the other.", () -> {
            DecisionDiagrams x = partners();
            x.siftAll();
            DecisionDiagrams byHand = partners();
            // e and b are tested by 4 nodes, c and d by 2, a and f by 1
            for (int variable : new int[] {2, 3, 1, 4, 0, 5}) {
                byHand.sift(variable);
            }
            Check.equal("order", Texts.order(x), Texts.order(byHand));
            Check.equal("size", x.count(2), 6);
            // the sequences are b, c, a and c, a, d, b
            Check.equal("without the last one", sifted("vars a b c;let p a=b&c;", 1, 2), "a,b,c");
            Check.equal("with the last one", siftedAll("vars a b c;let p a=b&c;"), "b,c,a");
            Check.equal("without the first one", sifted("vars a b c d;let p if(c,a,d);", 0, 3, 1), "b,c,a,d");
            Check.equal("with the first one", siftedAll("vars a b c d;let p if(c,a,d);"), "c,a,b,d");
        });
        Holds.holds(SIZE_THEN, () -> {
            Check.equal("from 14", partners().siftAll(), 6);
            Check.equal("no function", Worlds.none().siftAll(), 0);
            Check.equal("one variable", Worlds.one().siftAll(), 1);
            Check.equal("leaves alone", Texts.system(EIGHT + "let i 1;").siftAll(), 0);
            Check.equal("nothing is better", new DecisionDiagrams().siftAll(), 8);
        });
    }

    /** The order after the variables were sifted by hand in a sequence. */
    private static String sifted(String system, int... sequence) {
        DecisionDiagrams x = Texts.system(system);
        for (int variable : sequence) {
            x.sift(variable);
        }
        return Texts.order(x);
    }

    private static String siftedAll(String system) {
        DecisionDiagrams x = Texts.system(system);
        x.siftAll();
        return Texts.order(x);
    }

    private static void siftAllSequence() {
        Holds.holds("Their sequence is fixed before the first one:", () -> {
            // tested by 1, 2, 2 and 2 nodes; as b has moved, by 1, 1, 1 and 3
            String system = "vars a b c d;let p if(!d=a,c|d,b);";
            DecisionDiagrams x = Texts.system(system);
            x.sift(1);
            Check.report(x.variable(3, 3) > x.variable(2, 3), "d is tested by more nodes than c then");
            Check.equal("b, c, d, a", sifted(system, 1, 2, 3, 0), "a,d,c,b");
            Check.equal("b, d, a, c", sifted(system, 1, 3, 0, 2), "d,a,c,b");
            Check.equal("all", siftedAll(system), "a,d,c,b");
        });
        Holds.holds("by descending number of inner nodes that test them,", () -> {
            // tested by 1, 2 and 2 nodes
            String system = "vars a b c;let p if(c,a,!b);";
            Check.equal("b, c, a", sifted(system, 1, 2, 0), "c,a,b");
            Check.equal("a, b, c", sifted(system, 0, 1, 2), "c,b,a");
            Check.equal("all", siftedAll(system), "c,a,b");
            Check.equal("partners", siftedAll(PARTNERS), sifted(PARTNERS, 2, 3, 1, 4, 0, 5));
        });
        Holds.holds("of several with the same number by ascending variable.", () -> {
            // tested by 1, 2 and 2 nodes
            String system = "vars a b c;let p (a|c)^b;";
            Check.equal("b, c, a", sifted(system, 1, 2, 0), "a,c,b");
            Check.equal("c, b, a", sifted(system, 2, 1, 0), "c,a,b");
            Check.equal("all", siftedAll(system), "a,c,b");
            // the same numbers, and c at a smaller level than b
            DecisionDiagrams x = Texts.system("vars a b c;let p c&(a=b);");
            x.move(1, 2);
            x.siftAll();
            Check.equal("b ahead of c", Texts.order(x), "b,a,c");
            Check.equal("no nodes", siftedAll(EIGHT), "a,b,c,d,e,f,g,h");
        });
    }
}
