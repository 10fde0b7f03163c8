import java.util.NoSuchElementException;

/** Promises 7 to 12, sentence by sentence: counts, variables, levels, functions, names and nodes. */
final class NumberSentences {
    private static final String EIGHT = "vars a b c d e f g h;";

    private NumberSentences() {
    }

    static void all() {
        count();
        variable();
        variableAt();
        function();
        find();
        node();
    }

    private static void counts(String what, DecisionDiagrams x, int... due) {
        for (int i = 0; i < due.length; i++) {
            Check.equal(what + ": count(" + i + ")", x.count(i), due[i]);
        }
    }

    private static void variable(String what, DecisionDiagrams x, int variable, int... due) {
        for (int i = 0; i < due.length; i++) {
            Check.equal(what + ": variable(" + variable + ", " + i + ")", x.variable(variable, i), due[i]);
        }
    }

    private static void function(String what, DecisionDiagrams x, int f, int... due) {
        for (int i = 0; i < due.length; i++) {
            Check.equal(what + ": function(" + f + ", " + i + ")", x.function(f, i), due[i]);
        }
    }

    private static void node(String what, DecisionDiagrams x, int node, int... due) {
        for (int i = 0; i < due.length; i++) {
            Check.equal(what + ": node(" + node + ", " + i + ")", x.node(node, i), due[i]);
        }
    }

    /** Twelve functions, all with the same formula. */
    private static DecisionDiagrams twelve(String formula) {
        StringBuilder text = new StringBuilder("vars a b;");
        for (char name = 'c'; name < 'o'; name++) {
            text.append("let ").append(name).append(' ').append(formula).append(';');
        }
        return Texts.system(text.toString());
    }

    private static void count() {
        Holds.promise(7);
        Holds.holds("Returns a count.", () -> counts("a new object", new DecisionDiagrams(), 3, 2, 8, 3, 2, 0, 0));
        Holds.holds("- `what`: 0 variables, 1 functions,", () -> {
            counts("one and none", Texts.system("vars a;"), 1, 0);
            counts("eight and none", Texts.system(EIGHT), 8, 0);
            counts("two and twelve", Worlds.full(), 2, 12);
        });
        Holds.holds("2 the size of the diagram, 3 levels at which a node tests its variable,", () -> {
            counts("no function", Texts.system(EIGHT), 8, 0, 0, 0);
            counts("leaves alone", twelve("0"), 2, 12, 0, 0);
            counts("one level of two", twelve("b"), 2, 12, 1, 1);
            counts("two levels of eight", Texts.system(EIGHT + "let i h&a;"), 8, 1, 2, 2);
            counts("all of eight", Texts.system(EIGHT + "let i a^b^c^d^e^f^g^h;"), 8, 1, 15, 8);
        });
        Holds.holds("4 different functions, 5 functions that depend on no variable,", () -> {
            counts("no function", Worlds.none(), 2, 0, 0, 0, 0, 0);
            counts("twelve times b", twelve("b"), 2, 12, 1, 1, 1, 0);
            counts("twelve times 1", twelve("1"), 2, 12, 0, 0, 1, 12);
            counts("twelve times a&!a", twelve("a&!a"), 2, 12, 0, 0, 1, 12);
            // a, b, a&b, a|b, a^b, !a, !b, 0, 1, a=b, a>b, b>a
            DecisionDiagrams full = Worlds.full();
            Check.equal("twelve different ones", full.count(4), 12);
            Check.equal("two of them depend on nothing", full.count(5), 2);
        });
        Holds.holds("6 changes that can be undone", () -> {
            DecisionDiagrams x = new DecisionDiagrams();
            for (int changes = 0; changes < 12; changes++) {
                Check.equal("after " + changes, x.count(6), Math.min(changes, 8));
                x.setCost(0, changes);
            }
            for (int left = 7; left >= 0; left--) {
                x.undo();
                Check.equal("after undo", x.count(6), left);
            }
        });
        Holds.holds("Returns the count.", () -> {
            DecisionDiagrams x = new DecisionDiagrams();
            x.drop(0);
            x.drop(0);
            counts("both dropped", x, 3, 0, 0, 0, 0, 0, 2);
        });
        Holds.holds("Throws `IllegalArgumentException` if what is out of range",
                () -> Edges.outside("what", 0, 6, (x, what) -> x.count(what)));
    }

    private static void variable() {
        Holds.promise(8);
        Holds.holds("Returns a number of a variable.", () -> {
            variable("a new object", new DecisionDiagrams(), 0, 0, 0, 50, 2, 2, 1);
            variable("a new object", new DecisionDiagrams(), 2, 2, 0, 50, 2, 2, 1);
        });
        Holds.holds("- `variable`: number of a variable", () -> {
            for (int what = 0; what < 6; what++) {
                int number = what;
                Edges.variablesThere("variable", (x, variable) -> x.variable(variable, number));
            }
        });
        Holds.holds("- `what`: 0 its level, 1 its cost, 2 its percentage,", () -> {
            DecisionDiagrams x = Texts.system(EIGHT + "cost a 99;cost h 0;percent a 100;percent h 0;");
            variable("the first", x, 0, 0, 99, 100);
            variable("the last", x, 7, 7, 0, 0);
            x.move(0, 7);
            variable("the first, moved", x, 0, 7, 99, 100);
            variable("the last, moved", x, 7, 6, 0, 0);
            variable("one variable", Texts.system("vars a;"), 0, 0, 0, 50);
        });
        Holds.holds("3 inner nodes that test it, 4 functions that depend on it,", () -> {
            variable("no function", Worlds.none(), 0, 1, 9, 20, 0, 0);
            variable("leaves alone", twelve("a^a"), 0, 0, 0, 50, 0, 0);
            variable("one node for all", twelve("a"), 0, 0, 0, 50, 1, 12);
            variable("it is not in these", twelve("a"), 1, 1, 0, 50, 0, 0);
            variable("the lowest nodes", Texts.system(EIGHT + "let i a^b^c^d^e^f^g^h;"), 7, 7, 0, 50, 2, 1);
        });
        Holds.holds("5 letters of its name", () -> {
            DecisionDiagrams x = Texts.system("vars a bb abcdefg;");
            Check.equal("one letter", x.variable(0, 5), 1);
            Check.equal("two letters", x.variable(1, 5), 2);
            Check.equal("seven letters", x.variable(2, 5), 7);
        });
        Holds.holds("Returns the number.", () -> {
            DecisionDiagrams x = Worlds.busy();
            variable("a", x, 0, 3, 9, 20, 2, 2, 1);
            variable("c", x, 2, 1, 0, 50, 5, 3, 1);
        });
        Holds.holds("Throws `IndexOutOfBoundsException` if there is no such variable", () -> {
            for (int what = -1; what < 7; what++) {
                int number = what;
                Edges.noVariable("variable", (x, variable) -> x.variable(variable, number));
            }
        });
        Holds.holds("Throws `IllegalArgumentException` if what is out of range", () -> {
            Edges.outside("what of the first", 0, 5, (x, what) -> x.variable(0, what));
            Edges.outside("what of the last", 0, 5, (x, what) -> x.variable(3, what));
        });
    }

    private static void variableAt() {
        Holds.promise(9);
        Holds.holds("Returns the variable at a level.", () -> {
            DecisionDiagrams x = Texts.system(EIGHT);
            for (int level = 0; level < 8; level++) {
                Check.equal("level " + level, x.variableAt(level), level);
            }
            x.move(7, 0);
            for (int level = 1; level < 8; level++) {
                Check.equal("level " + level + ", h is moved", x.variableAt(level), level - 1);
            }
        });
        Holds.holds("- `level`: 0 for the first one of the order", () -> {
            Edges.variablesThere("level", DecisionDiagrams::variableAt);
            DecisionDiagrams x = new DecisionDiagrams();
            Check.equal("a is the first", x.variableAt(0), 0);
            x.move(2, 0);
            Check.equal("c is the first", x.variableAt(0), 2);
            Check.equal("one variable", Worlds.one().variableAt(0), 0);
        });
        Holds.holds("Returns the variable.", () -> {
            DecisionDiagrams x = Worlds.busy();
            Check.equal("level 0", x.variableAt(0), 1);
            Check.equal("level 3", x.variableAt(3), 0);
        });
        Holds.holds("Throws `IndexOutOfBoundsException` if there is no such level",
                () -> Edges.noVariable("level", DecisionDiagrams::variableAt));
    }

    private static void function() {
        Holds.promise(10);
        Holds.holds("Returns a number of a function.", () -> {
            function("maj", new DecisionDiagrams(), 0, 2, 4, 4, 3, 3);
            function("odd", new DecisionDiagrams(), 1, 6, 5, 4, 3, 3);
        });
        Holds.holds("- `f`: number of a function", () -> {
            for (int what = 0; what < 5; what++) {
                int number = what;
                Edges.functionsThere("f", (x, f) -> x.function(f, number));
            }
        });
        Holds.holds("- `what`: 0 its root, 1 its size, 2 its models,", () -> {
            DecisionDiagrams x = Texts.system(EIGHT + "let i 0;let j 1;let k h;let l a&b&c&d&e&f&g&h;let m h;");
            function("leaf 0", x, 0, 0, 0, 0);
            function("leaf 1", x, 1, 1, 0, 256);
            function("the first inner node", x, 2, 2, 1, 128);
            function("one model", x, 3, 3, 8, 1);
            function("a root of two functions", x, 4, 2, 1, 128);
        });
        Holds.holds("3 variables on which it depends,", () -> {
            DecisionDiagrams x = Texts.system(EIGHT + "let i 0;let j a&!a;let k h;let l a&b&c&d&e&f&g&h;let m (a|!a)&b;");
            int[] due = {0, 0, 1, 8, 1};
            for (int f = 0; f < 5; f++) {
                Check.equal("function " + f, x.function(f, 3), due[f]);
            }
        });
        Holds.holds("4 letters of its name (0 without a name)", () -> {
            DecisionDiagrams x = Texts.system("vars a;let b a;let abcdefg a;");
            x.negate(0);
            Check.equal("one letter", x.function(0, 4), 1);
            Check.equal("seven letters", x.function(1, 4), 7);
            Check.equal("no name", x.function(2, 4), 0);
            Texts.script(x, "let abcdef 1;");
            x.drop(0);
            Check.equal("seven letters, moved on", x.function(0, 4), 7);
            Check.equal("no name, moved on", x.function(1, 4), 0);
            Check.equal("six letters", x.function(2, 4), 6);
        });
        Holds.holds("Returns the number.", () -> function("without a name", Worlds.busy(), 3, 9, 4, 6, 3, 0));
        Holds.holds("Throws `IndexOutOfBoundsException` if there is no such function", () -> {
            for (int what : new int[] {-1, 0, 1, 4, 5}) {
                Edges.noFunction("f", (x, f) -> x.function(f, what));
            }
        });
        Holds.holds("Throws `IllegalArgumentException` if what is out of range", () -> {
            Edges.outside("what of the first", 0, 4, (x, what) -> x.function(0, what));
            Edges.outside("what of the last", 0, 4, (x, what) -> x.function(3, what));
        });
    }

    private static void missing(DecisionDiagrams x, String name) {
        Texts.put(x, name);
        Check.raises("find \"" + name + "\"", NoSuchElementException.class, x::find);
    }

    private static void find() {
        Holds.promise(11);
        Holds.holds("Returns the function whose name is the whole buffer", () -> {
            DecisionDiagrams x = Texts.system("vars x;let b x;let bc x;let abcdefg x;let az x;let za x;");
            Check.equal("the first and the last letter", Texts.find(x, "az"), 3);
            Check.equal("the last and the first letter", Texts.find(x, "za"), 4);
            Check.equal("one letter", Texts.find(x, "b"), 0);
            Check.equal("two letters", Texts.find(x, "bc"), 1);
            Check.equal("seven letters", Texts.find(x, "abcdefg"), 2);
            for (String other : new String[] {"abcdef", "bcdefg", "abcdefgh", "aabcdefg", " b", "b ", "b\n", "cb", "bb",
                "B", "b;", "\u0000b", "b\u0000", "b" + " ".repeat(599), "\u0162"}) {
                missing(x, other);
            }
            DecisionDiagrams full = Worlds.full();
            Check.equal("the first of twelve", Texts.find(full, "c"), 0);
            Check.equal("the last of twelve", Texts.find(full, "n"), 11);
        });
        Holds.holds("; the buffer stays.", () -> {
            DecisionDiagrams x = new DecisionDiagrams();
            Texts.put(x, "odd");
            Check.equal("find", x.find(), 1);
            Check.equal("find again", x.find(), 1);
            Check.equal("append", x.append(0, 0, 0, 0, 0), 23);
        });
        Holds.holds("Returns the function.", () -> {
            DecisionDiagrams x = new DecisionDiagrams();
            x.drop(0);
            Check.equal("odd, with another number", Texts.find(x, "odd"), 0);
            x.undo();
            Check.equal("odd, with its number", x.find(), 1);
        });
        Holds.holds("Throws `NoSuchElementException` if no function has this name", () -> {
            Refused.refused("a script", NoSuchElementException.class, Worlds::busy, DecisionDiagrams::find);
            Refused.refused("a script, and no function", NoSuchElementException.class, Worlds::none,
                    DecisionDiagrams::find);
            DecisionDiagrams x = Worlds.busy();
            missing(x, "");
            missing(x, "a");
            missing(x, "if");
            missing(x, "vars");
            missing(Worlds.none(), "");
            x.drop(0);
            missing(x, "f");
            x.undo();
            Check.equal("f is there again", x.find(), 0);
        });
    }

    private static void node() {
        Holds.promise(12);
        Holds.holds("Returns a number of a node.", () -> {
            node("the root of maj", new DecisionDiagrams(), 2, 0, 3, 5, 0, 1, 1);
            node("c", new DecisionDiagrams(), 4, 2, 0, 1, 4, 2, 0);
        });
        Holds.holds("- `node`: number of a node", () -> {
            for (int what = 0; what < 6; what++) {
                int number = what;
                Edges.passes("node", 0, Worlds::none, (x, node) -> x.node(node, number));
                Edges.passes("node", 1, Worlds::none, (x, node) -> x.node(node, number));
                Edges.passes("node", 2, Worlds::one, (x, node) -> x.node(node, number));
                Edges.passes("node", 9, DecisionDiagrams::new, (x, node) -> x.node(node, number));
            }
        });
        Holds.holds("- `what`: 0 the variable that it tests, 1 its low child, 2 its high child,", () -> {
            node("the first", Texts.system(EIGHT + "let i a;let j h;"), 2, 0, 0, 1);
            node("the last", Texts.system(EIGHT + "let i a;let j !h;"), 3, 7, 1, 0);
        });
        Holds.holds("3 inner nodes that have it as a child (one of which it is both children does not exist),", () -> {
            DecisionDiagrams x = Texts.system("vars a b c;let f a=c;let g b|!b&c;let h b&1|!b&1;let i c;");
            // 2: a 3,4 and 3: c 1,0 and 4: c 0,1 and 5: b 4,1
            node("the root of a=c", x, 2, 0, 3, 4, 0);
            node("!c", x, 3, 2, 1, 0, 1);
            node("c", x, 4, 2, 0, 1, 2);
            node("leaf 0", x, 0, -1, -1, -1, 2);
            node("leaf 1", x, 1, -1, -1, -1, 3);
            Check.equal("no node of b with twice leaf 1", x.count(2), 4);
        });
        Holds.holds("4 functions from whose root it is reached, 5 functions whose root it is", () -> {
            node("a root of all twelve", twelve("a"), 2, 0, 0, 1, 0, 12, 12);
            node("leaf 0 below all", twelve("a"), 0, -1, -1, -1, 1, 12, 0);
            node("leaf 1 is the root of all", twelve("1"), 1, -1, -1, -1, 0, 12, 12);
            node("leaf 0 is reached by none", twelve("1"), 0, -1, -1, -1, 0, 0, 0);
            DecisionDiagrams x = Texts.system("vars a b;let f a&b;let g b;let h 1;");
            node("b", x, 3, 1, 0, 1, 1, 2, 1);
            node("leaf 1", x, 1, -1, -1, -1, 1, 3, 1);
        });
        Holds.holds("Returns the number; NONE for 0 to 2 of a leaf.", () -> {
            for (int leaf = 0; leaf < 2; leaf++) {
                for (int what = 0; what < 3; what++) {
                    Check.equal("of a leaf", Worlds.full().node(leaf, what), DecisionDiagrams.NONE);
                    Check.equal("of a leaf without functions", Worlds.none().node(leaf, what), DecisionDiagrams.NONE);
                }
                for (int what = 3; what < 6; what++) {
                    Check.equal("0 without functions", Worlds.none().node(leaf, what), 0);
                }
            }
        });
        Holds.holds("Throws `IndexOutOfBoundsException` if there is no such node", () -> {
            for (int what : new int[] {-1, 0, 2, 3, 5, 6}) {
                Refused.outside("node", 0, 1, IndexOutOfBoundsException.class, Worlds::none, (x, n) -> x.node(n, what));
                Refused.outside("node", 0, 2, IndexOutOfBoundsException.class, Worlds::one, (x, n) -> x.node(n, what));
                Refused.outside("node", 0, 9, IndexOutOfBoundsException.class, DecisionDiagrams::new,
                        (x, n) -> x.node(n, what));
            }
            DecisionDiagrams x = new DecisionDiagrams();
            x.drop(0);
            Check.equal("the last node then", x.node(6, 0), 1);
            Check.raises("node 7 is gone", IndexOutOfBoundsException.class, () -> x.node(7, 0));
        });
        Holds.holds("Throws `IllegalArgumentException` if what is out of range", () -> {
            Edges.outside("what of a leaf", 0, 5, (x, what) -> x.node(0, what));
            Edges.outside("what of the first inner node", 0, 5, (x, what) -> x.node(2, what));
            Edges.outside("what of the last node", 0, 5, (x, what) -> x.node(x.count(2) + 1, what));
        });
    }
}
