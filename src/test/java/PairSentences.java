/** Promises 24 to 30, sentence by sentence: two functions. */
final class PairSentences {
    private static final String F = "- `f`: number of a function";
    private static final String G = "- `g`: number of a function, perhaps the same one";
    private static final String NO_FUNCTION = "Throws `IndexOutOfBoundsException` if there is no such function";
    private static final String EIGHT = "vars a b c d e f g h;";

    interface OfTwo {
        void on(DecisionDiagrams x, int f, int g);
    }

    private PairSentences() {
    }

    static void all() {
        same();
        implies();
        difference();
        twin();
        common();
        pairs();
        sizeOf();
        sizeOfArguments();
    }

    /** The words on the numbers f and g that six of these calls have in common. */
    private static void numbers(OfTwo call) {
        Holds.holds(F, () -> {
            Edges.functionsThere("f", (x, f) -> call.on(x, f, 0));
            Edges.functionsThere("f, with the last one", (x, f) -> call.on(x, f, x.count(1) - 1));
        });
        Holds.holds(G, () -> {
            Edges.functionsThere("g", (x, g) -> call.on(x, 0, g));
            Edges.functionsThere("f and g", (x, g) -> call.on(x, g, g));
        });
        Holds.holds(NO_FUNCTION, () -> {
            Edges.noFunction("f", (x, f) -> call.on(x, f, 0));
            Edges.noFunction("g", (x, g) -> call.on(x, 0, g));
            Edges.noFunction("f and g", (x, g) -> call.on(x, g, g));
        });
    }

    /** 0 to 6: all of eight variables, the same but for h, 0, 1, h, h, an odd number. */
    private static DecisionDiagrams seven() {
        return Texts.system(EIGHT + "let i a&b&c&d&e&f&g&h;let j a&b&c&d&e&f&g;let k 0;let l 1;let m h;let n h&(a|!a);"
                + "let o a^b^c^d^e^f^g^h;");
    }

    private static void same() {
        Holds.promise(24);
        Holds.holds("Tells whether two functions are equal.", () -> {
            DecisionDiagrams x = seven();
            for (int f = 0; f < 7; f++) {
                for (int g = 0; g < 7; g++) {
                    Check.equal(f + " and " + g, x.same(f, g), f == g || f + g == 9 && f >= 4 && g >= 4);
                }
            }
        });
        Holds.holds("Returns whether they have the same value for each assignment.", () -> {
            DecisionDiagrams x = Texts.system(EIGHT + "let i 0;let j 1;");
            Texts.script(x, "let k a&b&c&d&e&f&g&h;let l !a&!b&!c&!d&!e&!f&!g&!h;let m 0;let n !k;");
            Check.equal("but for the last assignment", x.same(0, 2), false);
            Check.equal("but for the first assignment", x.same(0, 3), false);
            Check.equal("for each one", x.same(0, 4), true);
            Check.equal("for none", x.same(2, 5), false);
            Check.equal("but for the last, of 1", x.same(1, 5), false);
        });
        numbers((x, f, g) -> x.same(f, g));
    }

    private static void implies() {
        Holds.promise(25);
        Holds.holds("Tells whether a function implies another one.", () -> {
            DecisionDiagrams x = seven();
            Check.equal("the smaller one", x.implies(0, 1), true);
            Check.equal("the larger one", x.implies(1, 0), false);
            Check.equal("equal ones", x.implies(4, 5), true);
            Check.equal("neither one", x.implies(4, 6), false);
            Check.equal("neither one", x.implies(6, 4), false);
        });
        Holds.holds("Returns whether each model of f is a model of g.", () -> {
            DecisionDiagrams x = seven();
            for (int g = 0; g < 7; g++) {
                Check.equal("0 implies " + g, x.implies(2, g), true);
                Check.equal(g + " implies 1", x.implies(g, 3), true);
                Check.equal(g + " implies " + g, x.implies(g, g), true);
                Check.equal("1 implies " + g, x.implies(3, g), g == 3);
                Check.equal(g + " implies 0", x.implies(g, 2), g == 2);
            }
            DecisionDiagrams y = Texts.system(EIGHT + "let i a;let j a&!(b&c&d&e&f&g&h);");
            Check.equal("but for the last model", y.implies(0, 1), false);
            Check.equal("the other way", y.implies(1, 0), true);
        });
        numbers((x, f, g) -> x.implies(f, g));
    }

    private static void difference() {
        Holds.promise(26);
        Holds.holds("Returns an assignment that tells two functions apart.", () -> {
            DecisionDiagrams x = new DecisionDiagrams();
            Check.equal("maj and odd", x.difference(0, 1), 1);
            Check.equal("odd and maj", x.difference(1, 0), 1);
        });
        Holds.holds("Returns the smallest assignment for which their values differ; NONE if they are equal.", () -> {
            DecisionDiagrams x = seven();
            Check.equal("the first assignment", x.difference(2, 3), 0);
            Check.equal("the last assignment alone", x.difference(0, 2), 255);
            Check.equal("all but h", x.difference(0, 1), 127);
            Check.equal("the first with h", x.difference(2, 4), 128);
            Check.equal("equal ones", x.difference(4, 5), DecisionDiagrams.NONE);
            Check.equal("one and the same", x.difference(6, 6), DecisionDiagrams.NONE);
            Check.equal("1 and odd", x.difference(3, 6), 0);
        });
        numbers((x, f, g) -> x.difference(f, g));
    }

    private static void twin() {
        Holds.promise(27);
        Holds.holds("Returns another function that is equal to a function.", () -> {
            Check.equal("n is m", seven().twin(4), 5);
            Check.equal("m is n", seven().twin(5), 4);
        });
        Holds.holds(F, () -> Edges.functionsThere("f", DecisionDiagrams::twin));
        Holds.holds("Returns the lowest such function; NONE if there is none.", () -> {
            DecisionDiagrams x = Texts.system("vars a b;let c a;let d b;let e a;let f a;let g !b;");
            int[] due = {2, -1, 0, 0, -1};
            for (int f = 0; f < 5; f++) {
                Check.equal("function " + f, x.twin(f), due[f]);
            }
            Check.equal("the only function", Worlds.one().twin(0), DecisionDiagrams.NONE);
            DecisionDiagrams full = Worlds.full();
            for (int f = 0; f < 12; f++) {
                Check.equal("of twelve different ones", full.twin(f), DecisionDiagrams.NONE);
            }
            // without a, the function 0 is number 6 and 1 is number 7
            full.drop(0);
            full.negate(6);
            Check.equal("the last of twelve", full.twin(7), 11);
            Check.equal("of the last of twelve", full.twin(11), 7);
        });
        Holds.holds(NO_FUNCTION, () -> Edges.noFunction("f", DecisionDiagrams::twin));
    }

    private static void common() {
        Holds.promise(28);
        Holds.holds("Counts the inner nodes that are reached from the roots of both functions.", () -> {
            Check.equal("maj and odd have c", new DecisionDiagrams().common(0, 1), 1);
            DecisionDiagrams x = Texts.system("vars a b c;let f a&b&c;let g b&c;let h c;let i !c;");
            Check.equal("a root of the one within the other", x.common(0, 1), 2);
            Check.equal("the other way", x.common(1, 0), 2);
            Check.equal("the lowest node", x.common(0, 2), 1);
            Check.equal("none", x.common(0, 3), 0);
        });
        Holds.holds("Returns the number of inner nodes.", () -> {
            DecisionDiagrams x = seven();
            Check.equal("0 and 0", x.common(2, 2), 0);
            Check.equal("0 and 1", x.common(2, 3), 0);
            Check.equal("1 and h", x.common(3, 4), 0);
            Check.equal("all with itself", x.common(0, 0), 8);
            Check.equal("all, and all but h", x.common(0, 1), 0);
            Check.equal("equal ones", x.common(4, 5), 1);
            Check.equal("odd with itself", x.common(6, 6), 15);
        });
        numbers((x, f, g) -> x.common(f, g));
    }

    private static void pairs() {
        Holds.promise(29);
        Holds.holds("Counts the pairs of nodes that are met when two functions are followed together.", () -> {
            // (2, 6), (3, 7), (5, 9), (0, 4), (4, 8), (1, 4), (0, 0), (0, 1), (1, 0) and (1, 1)
            DecisionDiagrams x = new DecisionDiagrams();
            Check.equal("maj and odd", x.pairs(0, 1), 10);
            Check.equal("odd and maj", x.pairs(1, 0), 10);
        });
        Holds.holds("The pair of both roots is met. If a pair is met that does not consist of two leaves,", () -> {
            DecisionDiagrams x = seven();
            Check.equal("0 and 0", x.pairs(2, 2), 1);
            Check.equal("0 and 1", x.pairs(2, 3), 1);
            Check.equal("1 and 1", x.pairs(3, 3), 1);
            Check.equal("a leaf and an inner node", x.pairs(2, 4), 3);
            Check.equal("an inner node and a leaf", x.pairs(4, 3), 3);
        });
        Holds.holds("the tested variable with the smallest level of both is looked at, and for each value of it the pair "
                + "of the nodes that follow is met; a node that does not test it stays.", () -> {
            // (a, b), (0, b), (1, b), then (0, 0), (0, 1), (1, 0) and (1, 1)
            DecisionDiagrams x = Texts.system("vars a b;let f a;let g b;let h a&b;");
            Check.equal("a and b", x.pairs(0, 1), 7);
            Check.equal("b and a", x.pairs(1, 0), 7);
            // (a&b, b), (0, b), (b, b), then (0, 0), (0, 1) and (1, 1)
            Check.equal("a&b and b", x.pairs(2, 1), 6);
            // with b first (a&b, b), (0, 0), (a, 1), (0, 1), (1, 1)
            x.swap(0);
            Check.equal("a&b and b, with b first", x.pairs(2, 1), 5);
        });
        Holds.holds("Returns the number of different pairs (with the node of f first).", () -> {
            DecisionDiagrams x = seven();
            Check.equal("all with itself", x.pairs(0, 0), 10);
            Check.equal("odd with itself", x.pairs(6, 6), 17);
            // one pair at the first level, two at each other one, and two of leaves
            DecisionDiagrams y = Texts.system(EIGHT + "let i a^b^c^d^e^f^g^h;let j !i;");
            Check.equal("odd and even", y.pairs(0, 1), 17);
            Check.equal("even and odd", y.pairs(1, 0), 17);
            // (c, !c), then (0, 1) and (1, 0) are two
            DecisionDiagrams z = Texts.system("vars c;let f c;let g !c;");
            Check.equal("c and !c", z.pairs(0, 1), 3);
        });
        numbers((x, f, g) -> x.pairs(f, g));
    }

    private static void sizeOf() {
        Holds.promise(30);
        Holds.holds("Returns the size that a combination of two functions would have (see combine).", () -> {
            for (int operator = 0; operator < 6; operator++) {
                for (int f = 0; f < 4; f++) {
                    DecisionDiagrams x = Worlds.busy();
                    int size = x.sizeOf(operator, f, 3 - f);
                    Check.equal("operator " + operator, x.function(x.combine(operator, f, 3 - f), 1), size);
                }
            }
        });
        Holds.holds("Returns the size.", () -> {
            DecisionDiagrams x = Texts.system("vars a b;let f a&b;let g a|b;");
            int[] due = {2, 2, 3, 0, 3, 0};
            int[] swapped = {2, 2, 3, 3, 3, 3};
            for (int operator = 0; operator < 6; operator++) {
                Check.equal("operator " + operator, x.sizeOf(operator, 0, 1), due[operator]);
                Check.equal("operator " + operator + ", swapped", x.sizeOf(operator, 1, 0), swapped[operator]);
            }
            DecisionDiagrams y = Worlds.busy();
            String before = Seen.STATE.of(y);
            y.sizeOf(2, 0, 1);
            Check.equal("nothing is added", Seen.STATE.of(y), before);
            Check.equal("no matter what else is in the diagram", y.sizeOf(0, 2, 2), 0);
            y.quantify(1, 2, false);
            y.compose(0, 0, 1);
            Check.equal("no matter what was called before", y.sizeOf(0, 2, 2), 0);
        });
    }

    private static void sizeOfArguments() {
        Holds.holds("- `operator`: 0 to 5, as for combine", () -> {
            int[] alone = {3, 3, 0, 0, 0, 0};
            for (int operator = 0; operator < 6; operator++) {
                int number = operator;
                Check.equal("operator " + operator, Texts.system("vars a b;let f a^b;").sizeOf(operator, 0, 0),
                        alone[operator]);
                Edges.passes("operator", operator, Worlds::full, (x, same) -> x.sizeOf(number, 0, 11));
            }
        });
        Holds.holds("Throws `IllegalArgumentException` if operator is out of range", () -> {
            Edges.outside("operator", 0, 5, (x, operator) -> x.sizeOf(operator, 0, 3));
            Refused.outside("operator", 0, 5, IllegalArgumentException.class, Worlds::full,
                    (x, operator) -> x.sizeOf(operator, 11, 11));
        });
        numbers((x, f, g) -> x.sizeOf(1, f, g));
        Holds.holds(NO_FUNCTION, () -> {
            Edges.noFunction("f, and no such operator", (x, f) -> x.sizeOf(6, f, 0));
            Edges.noFunction("g, and no such operator", (x, g) -> x.sizeOf(-1, 0, g));
        });
    }
}
