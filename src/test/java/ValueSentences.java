import java.util.NoSuchElementException;

/** Promises 13 to 23, sentence by sentence: values, models, variables, paths, costs and chances. */
final class ValueSentences {
    private static final String EIGHT = "vars a b c d e f g h;";
    private static final String ALL_OF_EIGHT = "a&b&c&d&e&f&g&h";
    private static final String ODD_OF_EIGHT = "a^b^c^d^e^f^g^h";

    private ValueSentences() {
    }

    static void all() {
        value();
        model();
        support();
        polarity();
        influence();
        paths();
        shortest();
        longest();
        cheapest();
        cheapestModel();
        chance();
    }

    /** 0, 1, h, all of eight variables, an odd number of them. */
    private static DecisionDiagrams five() {
        return Texts.system(EIGHT + "let i 0;let j 1;let k h;let l " + ALL_OF_EIGHT + ";let m " + ODD_OF_EIGHT + ";");
    }

    /** At least one of eight variables: a path of eight low children. */
    private static DecisionDiagrams any() {
        return Texts.system(EIGHT + "let i " + ALL_OF_EIGHT.replace('&', '|') + ";");
    }

    private static void value() {
        Holds.promise(13);
        Holds.holds("Returns the value of a function.", () -> {
            Check.equal("maj", Texts.values(new DecisionDiagrams(), 0), "00010111");
            Check.equal("odd", Texts.values(new DecisionDiagrams(), 1), "01101001");
        });
        Holds.holds("- `f`: number of a function", () -> Edges.functionsThere("f", (x, f) -> x.value(f, 0)));
        Holds.holds("- `assignment`: number of an assignment", () -> {
            DecisionDiagrams x = five();
            Check.equal("the first, of all", x.value(3, 0), 0);
            Check.equal("the last but one, of all", x.value(3, 254), 0);
            Check.equal("the last, of all", x.value(3, 255), 1);
            Check.equal("the last without h", x.value(2, 127), 0);
            Check.equal("the first with h", x.value(2, 128), 1);
            Check.equal("one variable, 0", Worlds.one().value(0, 0), 0);
            Check.equal("one variable, 1", Worlds.one().value(0, 1), 1);
        });
        Holds.holds("Returns 0 or 1.", () -> {
            DecisionDiagrams x = five();
            for (int assignment = 0; assignment < 256; assignment += 5) {
                Check.equal("0", x.value(0, assignment), 0);
                Check.equal("1", x.value(1, assignment), 1);
                Check.equal("odd", x.value(4, assignment), Integer.bitCount(assignment) % 2);
            }
        });
        Holds.holds("Throws `IndexOutOfBoundsException` if there is no such function", () -> {
            Edges.noFunction("f", (x, f) -> x.value(f, 0));
            Edges.noFunction("f, and no such assignment", (x, f) -> x.value(f, 256));
        });
        Holds.holds("Throws `IllegalArgumentException` if there is no such assignment", () -> {
            Class<IllegalArgumentException> due = IllegalArgumentException.class;
            Refused.outside("assignment", 0, 1, due, Worlds::one, (x, assignment) -> x.value(0, assignment));
            Refused.outside("assignment", 0, 3, due, Worlds::full, (x, assignment) -> x.value(11, assignment));
            Refused.outside("assignment", 0, 15, due, Worlds::busy, (x, assignment) -> x.value(3, assignment));
            Refused.outside("assignment", 0, 255, due, Worlds::eight, (x, assignment) -> x.value(1, assignment));
        });
    }

    private static void model() {
        Holds.promise(14);
        Holds.holds("Returns a model of a function.", () -> {
            DecisionDiagrams x = new DecisionDiagrams();
            int[] due = {3, 5, 6, 7};
            for (int index = 0; index < 4; index++) {
                Check.equal("maj", x.model(0, index), due[index]);
            }
        });
        Holds.holds("- `f`: number of a function", () -> Edges.functionsThere("f", (x, f) -> x.model(f, 0)));
        Holds.holds("- `index`: 0 for the model with the smallest number, 1 for the next one, and so on", () -> {
            DecisionDiagrams x = five();
            Check.equal("the first of h", x.model(2, 0), 128);
            Check.equal("the next of h", x.model(2, 1), 129);
            Check.equal("the last of h", x.model(2, 127), 255);
            Check.equal("the first of odd", x.model(4, 0), 1);
            Check.equal("the next of odd", x.model(4, 1), 2);
            Check.equal("the third of odd", x.model(4, 2), 4);
            Check.equal("the last of odd", x.model(4, 127), 254);
        });
        Holds.holds("Returns the number of the model.", () -> {
            DecisionDiagrams x = five();
            Check.equal("the only one", x.model(3, 0), 255);
            Check.equal("the first of all", x.model(1, 0), 0);
            Check.equal("the last of all", x.model(1, 255), 255);
            Check.equal("of one variable", Worlds.one().model(0, 0), 1);
        });
        Holds.holds("Throws `IndexOutOfBoundsException` if there is no such function", () -> {
            Edges.noFunction("f", (x, f) -> x.model(f, 0));
            Edges.noFunction("f, and no such model", (x, f) -> x.model(f, -1));
        });
        Holds.holds("Throws `NoSuchElementException` if there is no such model", () -> {
            Class<NoSuchElementException> due = NoSuchElementException.class;
            Refused.outside("index of a of one", 0, 0, due, Worlds::one, (x, index) -> x.model(0, index));
            Refused.outside("index of f of four", 0, 9, due, Worlds::busy, (x, index) -> x.model(0, index));
            Refused.outside("index of 1", 0, 15, due, Worlds::busy, (x, index) -> x.model(2, index));
            Refused.outside("index of 0", 0, -1, due, Worlds::full, (x, index) -> x.model(7, index));
            Refused.outside("index of 1 of eight", 0, 255, due, ValueSentences::five, (x, index) -> x.model(1, index));
            Refused.outside("index of h", 0, 127, due, ValueSentences::five, (x, index) -> x.model(2, index));
            Refused.outside("index of all", 0, 0, due, ValueSentences::five, (x, index) -> x.model(3, index));
        });
    }

    private static void support() {
        Holds.promise(15);
        Holds.holds("Returns the variables on which a function depends.", () -> {
            DecisionDiagrams x = Texts.system("vars a b c;let f a&!a;let g b|!b&c;let h (a|!a)&c;let i if(a,b,b);");
            int[] due = {0, 6, 4, 2};
            for (int f = 0; f < 4; f++) {
                Check.equal("function " + f, x.support(f), due[f]);
            }
        });
        Holds.holds("- `f`: number of a function", () -> Edges.functionsThere("f", DecisionDiagrams::support));
        Holds.holds("Returns the sum of 2 to the power of their numbers.", () -> {
            DecisionDiagrams x = five();
            int[] due = {0, 0, 128, 255, 255};
            for (int f = 0; f < 5; f++) {
                Check.equal("function " + f, x.support(f), due[f]);
            }
            x.move(7, 0);
            Check.equal("h, at level 0", x.support(2), 128);
            Check.equal("one variable", Worlds.one().support(0), 1);
        });
        Holds.holds("Throws `IndexOutOfBoundsException` if there is no such function",
                () -> Edges.noFunction("f", DecisionDiagrams::support));
    }

    private static void polarity() {
        Holds.promise(16);
        Holds.holds("Tells how a function changes with a variable.", () -> {
            DecisionDiagrams x = Texts.system("vars a b c;let f a>b;let g a^b;");
            Check.equal("a>b falls with a", x.polarity(0, 0), 2);
            Check.equal("a>b rises with b", x.polarity(0, 1), 1);
            Check.equal("a>b and c", x.polarity(0, 2), 0);
            Check.equal("a^b and a", x.polarity(1, 0), 3);
        });
        Holds.holds("- `f`: number of a function", () -> Edges.functionsThere("f", (x, f) -> x.polarity(f, 0)));
        Holds.holds("- `variable`: number of a variable",
                () -> Edges.variablesThere("variable", (x, variable) -> x.polarity(0, variable)));
        Holds.holds("Returns the sum of 1, if for some assignment the function changes from 0 to 1 as the variable alone "
                + "changes from 0 to 1,", () -> {
            DecisionDiagrams x = five();
            for (int variable = 0; variable < 8; variable++) {
                Check.equal("one rise alone", x.polarity(3, variable), 1);
                Check.equal("leaf 0", x.polarity(0, variable), 0);
                Check.equal("leaf 1", x.polarity(1, variable), 0);
                Check.equal("h", x.polarity(2, variable), variable == 7 ? 1 : 0);
            }
        });
        Holds.holds("and 2, if it changes from 1 to 0 for some assignment.", () -> {
            DecisionDiagrams x = five();
            x.negate(3);
            DecisionDiagrams y = Texts.system(EIGHT + "let i !h&(b&c&d&e&f&g)|h&!(b|c|d|e|f|g);");
            for (int variable = 0; variable < 8; variable++) {
                Check.equal("one fall alone", x.polarity(5, variable), 2);
                Check.equal("both", x.polarity(4, variable), 3);
            }
            Check.equal("h, one of each", y.polarity(0, 7), 3);
            Check.equal("b, one of each", y.polarity(0, 1), 3);
            Check.equal("a", y.polarity(0, 0), 0);
        });
        Holds.holds("Throws `IndexOutOfBoundsException` if there is no such function or variable", () -> {
            Edges.noFunction("f", (x, f) -> x.polarity(f, 0));
            Edges.noVariable("variable", (x, variable) -> x.polarity(0, variable));
        });
    }

    private static void influence() {
        Holds.promise(17);
        Holds.holds("Counts the assignments for which a function changes if a variable alone is changed.", () -> {
            DecisionDiagrams x = Texts.system("vars a b c;let f a&b;let g if(b,a,!a&c);");
            Check.equal("a&b and a", x.influence(0, 0), 4);
            Check.equal("a&b and c", x.influence(0, 2), 0);
            Check.equal("rises and falls", x.influence(1, 0), 6);
        });
        Holds.holds("- `f`: number of a function", () -> Edges.functionsThere("f", (x, f) -> x.influence(f, 0)));
        Holds.holds("- `variable`: number of a variable",
                () -> Edges.variablesThere("variable", (x, variable) -> x.influence(0, variable)));
        Holds.holds("Returns the number of assignments (with both values of the variable).", () -> {
            DecisionDiagrams x = five();
            for (int variable = 0; variable < 8; variable++) {
                Check.equal("none, of leaf 0", x.influence(0, variable), 0);
                Check.equal("none, of leaf 1", x.influence(1, variable), 0);
                Check.equal("two, of all", x.influence(3, variable), 2);
                Check.equal("each one, of odd", x.influence(4, variable), 256);
                Check.equal("h", x.influence(2, variable), variable == 7 ? 256 : 0);
            }
            Check.equal("one variable", Worlds.one().influence(0, 0), 2);
        });
        Holds.holds("Throws `IndexOutOfBoundsException` if there is no such function or variable", () -> {
            Edges.noFunction("f", (x, f) -> x.influence(f, 0));
            Edges.noVariable("variable", (x, variable) -> x.influence(0, variable));
        });
    }

    private interface OfLeaf {
        int of(DecisionDiagrams x, int f, int leaf);
    }

    private static void leaves(String what, OfLeaf call, int[][] due) {
        DecisionDiagrams x = five();
        for (int f = 0; f < 5; f++) {
            for (int leaf = 0; leaf < 2; leaf++) {
                Check.equal(what + " of function " + f + " to leaf " + leaf, call.of(x, f, leaf), due[f][leaf]);
            }
        }
    }

    private static void paths() {
        Holds.promise(18);
        Holds.holds("Counts the paths from the root of a function to a leaf; a path is told by the children at which it "
                + "passes.", () -> {
            leaves("paths", DecisionDiagrams::paths, new int[][] {{1, 0}, {0, 1}, {1, 1}, {8, 1}, {128, 128}});
            // a low, b low; a low, b high, c; a high, c: two paths share each of b and c
            DecisionDiagrams x = new DecisionDiagrams();
            Check.equal("maj to 0", x.paths(0, 0), 3);
            Check.equal("maj to 1", x.paths(0, 1), 3);
            Check.equal("eight low children", any().paths(0, 0), 1);
            Check.equal("a high child below each low one", any().paths(0, 1), 8);
            DecisionDiagrams y = Texts.system("vars a b c;let f (a=b)&c;");
            Check.equal("(a=b)&c to 0", y.paths(0, 0), 4);
            Check.equal("(a=b)&c to 1", y.paths(0, 1), 2);
        });
        Holds.holds("- `f`: number of a function", () -> Edges.functionsThere("f", (x, f) -> x.paths(f, 0)));
        Holds.holds("- `leaf`: 0 or 1", () -> Edges.inside("leaf", 0, 1, (x, leaf) -> x.paths(0, leaf)));
        Holds.holds("Returns the number of paths; 1 if the root is this leaf, 0 if it is the other one.", () -> {
            DecisionDiagrams x = five();
            Check.equal("0 to leaf 0", x.paths(0, 0), 1);
            Check.equal("0 to leaf 1", x.paths(0, 1), 0);
            Check.equal("1 to leaf 0", x.paths(1, 0), 0);
            Check.equal("1 to leaf 1", x.paths(1, 1), 1);
        });
        Holds.holds("Throws `IndexOutOfBoundsException` if there is no such function", () -> {
            Edges.noFunction("f", (x, f) -> x.paths(f, 0));
            Edges.noFunction("f, and no such leaf", (x, f) -> x.paths(f, 2));
        });
        Holds.holds("Throws `IllegalArgumentException` if leaf is out of range",
                () -> Edges.outside("leaf", 0, 1, (x, leaf) -> x.paths(3, leaf)));
    }

    private static void shortest() {
        Holds.promise(19);
        Holds.holds("Returns the fewest inner nodes on a path from the root of a function to a leaf.", () -> {
            DecisionDiagrams x = Texts.system("vars a b c d;let f if(a,b&c&d,b|c);let g if(a,b|c,b&c&d);");
            Check.equal("eight low children", any().shortest(0, 0), 8);
            Check.equal("the first high child", any().shortest(0, 1), 1);
            Check.equal("by the low child to 1", x.shortest(0, 1), 2);
            Check.equal("by the high child to 0", x.shortest(0, 0), 2);
            Check.equal("by the high child to 1", x.shortest(1, 1), 2);
            Check.equal("by the low child to 0", x.shortest(1, 0), 2);
        });
        Holds.holds("- `f`: number of a function", () -> Edges.functionsThere("f", (x, f) -> x.shortest(f, 0)));
        Holds.holds("- `leaf`: 0 or 1", () -> Edges.inside("leaf", 0, 1, (x, leaf) -> x.shortest(0, leaf)));
        Holds.holds("Returns the number of inner nodes; NONE if there is no such path.", () -> leaves("shortest",
                DecisionDiagrams::shortest, new int[][] {{0, -1}, {-1, 0}, {1, 1}, {1, 8}, {8, 8}}));
        Holds.holds("Throws `IndexOutOfBoundsException` if there is no such function", () -> {
            Edges.noFunction("f", (x, f) -> x.shortest(f, 0));
            Edges.noFunction("f, and no such leaf", (x, f) -> x.shortest(f, -1));
        });
        Holds.holds("Throws `IllegalArgumentException` if leaf is out of range",
                () -> Edges.outside("leaf", 0, 1, (x, leaf) -> x.shortest(3, leaf)));
    }

    private static void longest() {
        Holds.promise(20);
        Holds.holds("Returns the most inner nodes on a path from the root of a function to a leaf.", () -> {
            DecisionDiagrams x = Texts.system("vars a b c d;let f if(a,b,c&d);let g if(a,c&d,b);let h a&(b=c)&d;");
            Check.equal("eight low children", any().longest(0), 8);
            Check.equal("by the low child", x.longest(0), 3);
            Check.equal("by the high child", x.longest(1), 3);
            Check.equal("all four", x.longest(2), 4);
        });
        Holds.holds("- `f`: number of a function", () -> Edges.functionsThere("f", DecisionDiagrams::longest));
        Holds.holds("Returns the number of inner nodes.", () -> {
            int[] due = {0, 0, 1, 8, 8};
            DecisionDiagrams x = five();
            for (int f = 0; f < 5; f++) {
                Check.equal("function " + f, x.longest(f), due[f]);
            }
        });
        Holds.holds("Throws `IndexOutOfBoundsException` if there is no such function",
                () -> Edges.noFunction("f", DecisionDiagrams::longest));
    }

    /** Each variable of five costs 99. */
    private static DecisionDiagrams dear() {
        DecisionDiagrams x = five();
        for (int variable = 0; variable < 8; variable++) {
            x.setCost(variable, 99);
        }
        return x;
    }

    private static void cheapest() {
        Holds.promise(21);
        Holds.holds("Returns the least cost of a model.", () -> {
            DecisionDiagrams x = new DecisionDiagrams();
            x.setCost(0, 5);
            x.setCost(1, 3);
            x.setCost(2, 4);
            Check.equal("b and c of maj", x.cheapest(0), 7);
            Check.equal("b of odd", x.cheapest(1), 3);
        });
        Holds.holds("The cost of a model is the sum of the costs of the variables that have the value 1 in it.", () -> {
            DecisionDiagrams x = dear();
            Check.equal("none of eight", x.cheapest(1), 0);
            Check.equal("one of eight", x.cheapest(4), 99);
            Check.equal("all of eight", x.cheapest(3), 792);
            x.setCost(7, 0);
            Check.equal("one of eight for nothing", x.cheapest(4), 0);
            Check.equal("all of eight, one for nothing", x.cheapest(3), 693);
        });
        Holds.holds("- `f`: number of a function", () -> Edges.functionsThere("f", DecisionDiagrams::cheapest));
        Holds.holds("Returns the least cost; NONE if there is no model.", () -> {
            Check.equal("no costs", five().cheapest(3), 0);
            Check.equal("no model", dear().cheapest(0), DecisionDiagrams.NONE);
            Check.equal("no model, no costs", five().cheapest(0), DecisionDiagrams.NONE);
        });
        Holds.holds("Throws `IndexOutOfBoundsException` if there is no such function",
                () -> Edges.noFunction("f", DecisionDiagrams::cheapest));
    }

    private static void cheapestModel() {
        Holds.promise(22);
        Holds.holds("Returns the model with the least cost.", () -> {
            DecisionDiagrams x = new DecisionDiagrams();
            x.setCost(0, 5);
            x.setCost(1, 3);
            x.setCost(2, 4);
            Check.equal("b and c of maj", x.cheapestModel(0), 6);
            Check.equal("b of odd", x.cheapestModel(1), 2);
            Check.equal("the only one", dear().cheapestModel(3), 255);
        });
        Holds.holds("- `f`: number of a function", () -> Edges.functionsThere("f", DecisionDiagrams::cheapestModel));
        Holds.holds("Returns the number of the model, the smallest one of several.", () -> {
            DecisionDiagrams x = dear();
            Check.equal("none of eight", x.cheapestModel(1), 0);
            Check.equal("a of eight with the same cost", x.cheapestModel(4), 1);
            x.setCost(7, 98);
            Check.equal("h is cheaper by 1", x.cheapestModel(4), 128);
            x.setCost(6, 98);
            Check.equal("g is as cheap", x.cheapestModel(4), 64);
            Check.equal("without costs", new DecisionDiagrams().cheapestModel(0), 3);
        });
        Holds.holds("Throws `IndexOutOfBoundsException` if there is no such function",
                () -> Edges.noFunction("f", DecisionDiagrams::cheapestModel));
        Holds.holds("Throws `NoSuchElementException` if there is no model", () -> {
            Refused.refused("0", NoSuchElementException.class, ValueSentences::dear, x -> x.cheapestModel(0));
            Refused.refused("0 of twelve", NoSuchElementException.class, Worlds::full, x -> x.cheapestModel(7));
        });
    }

    private static void chance() {
        Holds.promise(23);
        Holds.holds("Returns the chance that a function has the value 1.", () -> {
            DecisionDiagrams x = new DecisionDiagrams();
            Check.exactly("maj", x.chance(0), 0.5);
            Check.exactly("odd", x.chance(1), 0.5);
            Check.exactly("all of eight", five().chance(3), 1.0 / 256.0);
            Check.exactly("one of eight", any().chance(0), 255.0 / 256.0);
        });
        Holds.holds("The chance of leaf 0 is 0.0, that of leaf 1 is 1.0.", () -> {
            Check.exactly("0", five().chance(0), 0.0);
            Check.exactly("1", five().chance(1), 1.0);
        });
        Holds.holds("The chance of an inner node is (1.0 - p) * l + p * h, where p is the percentage of its variable as a "
                + "double, divided by 100.0, and l and h are the chances of the low and the high child.", () -> {
            for (int percent = 0; percent <= 100; percent++) {
                double p = (double) percent / 100.0;
                DecisionDiagrams x = Texts.system("vars a b;let f a;let g !a;let h a&b;");
                x.setPercent(0, percent);
                x.setPercent(1, 7);
                Check.exactly("a with " + percent, x.chance(0), (1.0 - p) * 0.0 + p * 1.0);
                Check.exactly("!a with " + percent, x.chance(1), (1.0 - p) * 1.0 + p * 0.0);
                double b = (1.0 - 0.07) * 0.0 + 0.07 * 1.0;
                Check.exactly("a&b with " + percent, x.chance(2), (1.0 - p) * 0.0 + p * b);
                x.swap(0);
                double a = (1.0 - p) * 0.0 + p * 1.0;
                Check.exactly("a&b with b first", x.chance(2), (1.0 - 0.07) * 0.0 + 0.07 * a);
            }
        });
        Holds.holds("- `f`: number of a function", () -> Edges.functionsThere("f", (x, f) -> x.chance(f)));
        Holds.holds("Returns the chance of its root.", () -> {
            DecisionDiagrams x = Texts.system("vars a b;let f b;let g a&b;percent a 0;percent b 100;");
            Check.exactly("never a", x.chance(1), 0.0);
            Check.exactly("always b", x.chance(0), 1.0);
            x.setPercent(0, 100);
            Check.exactly("always both", x.chance(1), 1.0);
        });
        Holds.holds("Throws `IndexOutOfBoundsException` if there is no such function",
                () -> Edges.noFunction("f", (x, f) -> x.chance(f)));
    }
}
