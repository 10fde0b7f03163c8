/** Promises 34 to 40 and 45 to 47, sentence by sentence: functions added and dropped, costs, percentages, scripts. */
final class ChangeSentences {
    private static final String F = "- `f`: number of a function";
    private static final String G = "- `g`: number of a function";
    private static final String H = "- `h`: number of a function";
    private static final String VARIABLE = "- `variable`: number of a variable";
    private static final String NUMBER = "Returns the number of the new function.";
    private static final String NO_FUNCTION = "Throws `IndexOutOfBoundsException` if there is no such function";
    private static final String NO_VARIABLE = "Throws `IndexOutOfBoundsException` if there is no such variable";
    private static final String NEITHER = "Throws `IndexOutOfBoundsException` if there is no such function or variable";
    private static final String FULL = "Throws `IllegalStateException` if there are 12 functions";
    private static final String EIGHT = "vars a b c d e f g h;";

    interface Adding {
        int to(DecisionDiagrams x);
    }

    private ChangeSentences() {
    }

    static void all() {
        combine();
        combineArguments();
        choose();
        negate();
        restrict();
        quantify();
        compose();
        drop();
        setCost();
        setPercent();
        script();
        scriptWithAnError();
    }

    /** The numbers of the 2nd, the 5th and the 12th function, each without a name and one change. */
    private static void numbers(Adding call) {
        Holds.holds(NUMBER, () -> {
            number(Worlds.one(), call, 1);
            number(Worlds.busy(), call, 4);
            number(Worlds.eleven(), call, 11);
        });
        Holds.holds(FULL, () -> {
            Check.equal("a 12th function", call.to(Worlds.eleven()), 11);
            Refused.refused("a 13th function", IllegalStateException.class, Worlds::full, call::to);
            DecisionDiagrams x = Worlds.eleven();
            call.to(x);
            Check.raises("a 13th function", IllegalStateException.class, () -> call.to(x));
            Check.equal("still 12", x.count(1), 12);
            x.drop(11);
            Check.equal("a 12th function again", call.to(x), 11);
        });
    }

    private static void number(DecisionDiagrams x, Adding call, int due) {
        int changes = x.count(6);
        Check.equal("number", call.to(x), due);
        Check.equal("functions", x.count(1), due + 1);
        Check.equal("changes", x.count(6), changes + 1);
        Check.equal("letters of its name", x.function(due, 4), 0);
    }

    private static void values(String what, DecisionDiagrams x, int f, String due) {
        Check.equal(what, Texts.values(x, f), due);
    }

    /** a, b and c of three variables, then maj and 1. */
    private static DecisionDiagrams five() {
        return Texts.system("vars a b c;let f a;let g b;let h c;let maj a&b|b&c|a&c;let one 1;");
    }

    private static void combine() {
        Holds.promise(34);
        Holds.holds("Adds a combination of two functions.", () -> {
            DecisionDiagrams x = Texts.system("vars a b;let f a;let g b;");
            for (int operator = 0; operator < 6; operator++) {
                x.combine(operator, 0, 1);
            }
            String[] due = {"0001", "0111", "0110", "1011", "1001", "0100"};
            for (int operator = 0; operator < 6; operator++) {
                values("operator " + operator, x, operator + 2, due[operator]);
            }
            int[] models = {64, 192, 128, 192, 128, 64};
            DecisionDiagrams y = Texts.system(EIGHT + "let i g;let j h;");
            for (int operator = 0; operator < 6; operator++) {
                int f = y.combine(operator, 0, 1);
                Check.equal("g and h, " + operator, y.function(f, 2), models[operator]);
                for (int both = 0; both < 4; both++) {
                    Check.equal("g and h, " + operator, y.value(f, both << 6), due[operator].charAt(both) - '0');
                }
            }
        });
        Holds.holds("- `operator`: 0 f & g, 1 f | g, 2 f ^ g, 3 f > g, 4 f = g, 5 f & !g", () -> {
            String[] swapped = {"0001", "0111", "0110", "1101", "1001", "0010"};
            String[] alone = {"0101", "0101", "0000", "1111", "1111", "0000"};
            for (int operator = 0; operator < 6; operator++) {
                int number = operator;
                DecisionDiagrams x = Texts.system("vars a b;let f a;let g b;");
                values("swapped, " + operator, x, x.combine(operator, 1, 0), swapped[operator]);
                values("alone, " + operator, x, x.combine(operator, 0, 0), alone[operator]);
                Edges.passes("operator", operator, Worlds::eleven, (y, same) -> y.combine(number, 0, 10));
            }
        });
        numbers(x -> x.combine(0, 0, 0));
        numbers(x -> x.combine(5, x.count(1) - 1, x.count(1) - 1));
    }

    private static void combineArguments() {
        Holds.holds(F, () -> Edges.functionsThereToAdd("f", (x, f) -> x.combine(1, f, 0)));
        Holds.holds("- `g`: number of a function, perhaps the same one", () -> {
            Edges.functionsThereToAdd("g", (x, g) -> x.combine(1, 0, g));
            Edges.functionsThereToAdd("f and g", (x, g) -> x.combine(1, g, g));
        });
        Holds.holds(NO_FUNCTION, () -> {
            Edges.noFunction("f", (x, f) -> x.combine(1, f, 0));
            Edges.noFunction("g", (x, g) -> x.combine(1, 0, g));
            Edges.noFunction("f, and no such operator", (x, f) -> x.combine(6, f, 0));
            Edges.noFunction("g, and no such operator", (x, g) -> x.combine(-1, 0, g));
        });
        Holds.holds("Throws `IllegalArgumentException` if operator is out of range", () -> {
            Edges.outside("operator", 0, 5, (x, operator) -> x.combine(operator, 0, 3));
            Refused.outside("operator, with 12 functions", 0, 5, IllegalArgumentException.class, Worlds::full,
                    (x, operator) -> x.combine(operator, 0, 11));
        });
    }

    private static void choose() {
        Holds.promise(35);
        Holds.holds("Adds the function that has the value of g where f has the value 1, and the value of h elsewhere.",
                () -> {
                    DecisionDiagrams x = five();
                    values("if(a,b,c)", x, x.choose(0, 1, 2), "00011011");
                    values("if(c,a,b)", x, x.choose(2, 0, 1), "00110101");
                    values("if(1,b,c)", x, x.choose(4, 1, 2), "00110011");
                    values("if(a,a,a)", x, x.choose(0, 0, 0), "01010101");
                    values("if(maj,1,a)", x, x.choose(3, 4, 0), "01010111");
                    DecisionDiagrams y = Texts.system(EIGHT + "let i g;let j h;let k a;let l !a;");
                    Check.equal("if(g,h,a)", y.support(y.choose(0, 1, 2)), 193);
                    Check.equal("if(h,a,!a) is h=a", y.function(y.choose(1, 2, 3), 2), 128);
                    Check.equal("for a and h alone", y.value(5, 129), 1);
                    Check.equal("for h without a", y.value(5, 128), 0);
                    Check.equal("for neither", y.value(5, 64), 1);
                });
        Holds.holds(F, () -> Edges.functionsThereToAdd("f", (x, f) -> x.choose(f, 0, 0)));
        Holds.holds(G, () -> Edges.functionsThereToAdd("g", (x, g) -> x.choose(0, g, 0)));
        Holds.holds(H, () -> Edges.functionsThereToAdd("h", (x, h) -> x.choose(0, 0, h)));
        Holds.holds(NO_FUNCTION, () -> {
            Edges.noFunction("f", (x, f) -> x.choose(f, 0, 0));
            Edges.noFunction("g", (x, g) -> x.choose(0, g, 0));
            Edges.noFunction("h", (x, h) -> x.choose(0, 0, h));
            Edges.noFunction("all three", (x, f) -> x.choose(f, f, f));
        });
        numbers(x -> x.choose(0, 0, 0));
    }

    private static void negate() {
        Holds.promise(36);
        Holds.holds("Adds the function that has the value 1 where a function has the value 0.", () -> {
            DecisionDiagrams x = five();
            values("!a", x, x.negate(0), "10101010");
            values("!maj", x, x.negate(3), "11101000");
            values("!1", x, x.negate(4), "00000000");
            values("!!1", x, x.negate(7), "11111111");
            DecisionDiagrams y = Texts.system(EIGHT + "let i g&h;");
            Check.equal("!(g&h)", y.function(y.negate(0), 2), 192);
            Check.equal("for g alone", y.value(1, 64), 1);
            Check.equal("for g and h", y.value(1, 192), 0);
        });
        Holds.holds(F, () -> Edges.functionsThereToAdd("f", DecisionDiagrams::negate));
        Holds.holds(NO_FUNCTION, () -> Edges.noFunction("f", DecisionDiagrams::negate));
        numbers(x -> x.negate(0));
    }

    private static void restrict() {
        Holds.promise(37);
        Holds.holds("Adds the function that for each assignment has the value that f has with another value of a variable.",
                () -> {
                    DecisionDiagrams x = five();
                    values("maj with a", x, x.restrict(3, 0, true), "00111111");
                    values("maj without a", x, x.restrict(3, 0, false), "00000011");
                    values("maj with c", x, x.restrict(3, 2, true), "01110111");
                    values("a with b", x, x.restrict(0, 1, true), "01010101");
                    DecisionDiagrams y = Texts.system(EIGHT + "let i a&h;let j g^h;");
                    Check.equal("a&h with h", y.support(y.restrict(0, 7, true)), 1);
                    Check.equal("a&h without h", y.function(y.restrict(0, 7, false), 0), 0);
                    Check.equal("g^h with g", y.polarity(y.restrict(1, 6, true), 7), 2);
                });
        Holds.holds(F, () -> Edges.functionsThereToAdd("f", (x, f) -> x.restrict(f, 0, true)));
        Holds.holds(VARIABLE, () -> {
            Edges.variablesThere("variable", (x, variable) -> x.restrict(0, variable, true));
            Edges.variablesThere("variable", (x, variable) -> x.restrict(0, variable, false));
        });
        Holds.holds("- `value`: the value of the variable, true for 1", () -> {
            DecisionDiagrams x = five();
            values("a with a", x, x.restrict(0, 0, true), "11111111");
            values("a without a", x, x.restrict(0, 0, false), "00000000");
        });
        Holds.holds(NEITHER, () -> {
            Edges.noFunction("f", (x, f) -> x.restrict(f, 0, true));
            Edges.noVariable("variable", (x, variable) -> x.restrict(0, variable, false));
            Refused.outside("variable, with 12 functions", 0, 1, IndexOutOfBoundsException.class, Worlds::full,
                    (x, variable) -> x.restrict(0, variable, true));
        });
        numbers(x -> x.restrict(0, 0, true));
        numbers(x -> x.restrict(x.count(1) - 1, x.count(0) - 1, false));
    }

    private static void quantify() {
        Holds.promise(38);
        Holds.holds("Adds \"all V F\" or \"some V F\" for a variable and a function.", () -> {
            DecisionDiagrams x = five();
            values("all a maj", x, x.quantify(3, 0, true), "00000011");
            values("some a maj", x, x.quantify(3, 0, false), "00111111");
            values("all c maj", x, x.quantify(3, 2, true), "00010001");
            values("some c maj", x, x.quantify(3, 2, false), "01110111");
            DecisionDiagrams y = Texts.system(EIGHT + "let i g|h;");
            Check.equal("all h (g|h)", y.support(y.quantify(0, 7, true)), 64);
            Check.equal("some h (g|h)", y.function(y.quantify(0, 7, false), 0), 1);
        });
        Holds.holds(F, () -> Edges.functionsThereToAdd("f", (x, f) -> x.quantify(f, 0, true)));
        Holds.holds(VARIABLE, () -> {
            Edges.variablesThere("variable", (x, variable) -> x.quantify(0, variable, true));
            Edges.variablesThere("variable", (x, variable) -> x.quantify(0, variable, false));
        });
        Holds.holds("- `all`: true for all, false for some", () -> {
            DecisionDiagrams x = five();
            values("all a a", x, x.quantify(0, 0, true), "00000000");
            values("some a a", x, x.quantify(0, 0, false), "11111111");
            values("all b a", x, x.quantify(0, 1, true), "01010101");
            values("some b a", x, x.quantify(0, 1, false), "01010101");
        });
        Holds.holds(NEITHER, () -> {
            Edges.noFunction("f", (x, f) -> x.quantify(f, 0, true));
            Edges.noVariable("variable", (x, variable) -> x.quantify(0, variable, false));
            Refused.outside("variable, with 12 functions", 0, 1, IndexOutOfBoundsException.class, Worlds::full,
                    (x, variable) -> x.quantify(11, variable, true));
        });
        numbers(x -> x.quantify(0, 0, false));
        numbers(x -> x.quantify(x.count(1) - 1, x.count(0) - 1, true));
    }

    private static void compose() {
        Holds.promise(39);
        Holds.holds("Adds the function that for each assignment has the value that f has if the variable has the value "
                + "that g has for this assignment.", () -> {
            DecisionDiagrams x = five();
            values("maj with b for a", x, x.compose(3, 0, 1), "00110011");
            values("maj with maj for c", x, x.compose(3, 2, 3), "00010111");
            values("maj with 1 for a", x, x.compose(3, 0, 4), "00111111");
            values("a with c for a", x, x.compose(0, 0, 2), "00001111");
            values("a with c for b", x, x.compose(0, 1, 2), "01010101");
            values("a with a for a", x, x.compose(0, 0, 0), "01010101");
            DecisionDiagrams z = Texts.system(EIGHT + "let i g&h;let j a|g;");
            Check.equal("g&h with a|g for h is g", z.support(z.compose(0, 7, 1)), 64);
            Check.equal("g&h with a|g for g is (a|g)&h", z.function(z.compose(0, 6, 1), 2), 96);
            // g depends on the variable itself: !a&b|c with !a for a is a&b|c
            DecisionDiagrams y = Texts.system("vars a b c;let f !a&b|c;let g !a;");
            values("with itself", y, y.compose(0, 0, 1), "00011111");
        });
        Holds.holds(F, () -> Edges.functionsThereToAdd("f", (x, f) -> x.compose(f, 0, 0)));
        Holds.holds(VARIABLE, () -> Edges.variablesThere("variable", (x, variable) -> x.compose(0, variable, 0)));
        Holds.holds(G, () -> Edges.functionsThereToAdd("g", (x, g) -> x.compose(0, 0, g)));
        Holds.holds(NEITHER, () -> {
            Edges.noFunction("f", (x, f) -> x.compose(f, 0, 0));
            Edges.noFunction("g", (x, g) -> x.compose(0, 0, g));
            Edges.noVariable("variable", (x, variable) -> x.compose(0, variable, 0));
            Refused.outside("variable, with 12 functions", 0, 1, IndexOutOfBoundsException.class, Worlds::full,
                    (x, variable) -> x.compose(0, variable, 11));
        });
        numbers(x -> x.compose(0, 0, 0));
        numbers(x -> x.compose(x.count(1) - 1, x.count(0) - 1, 0));
    }

    private static void drop() {
        Holds.promise(40);
        Holds.holds("Drops a function.", () -> {
            for (int dropped = 0; dropped < 12; dropped++) {
                DecisionDiagrams x = Worlds.full();
                DecisionDiagrams before = Worlds.full();
                x.drop(dropped);
                Check.equal("functions", x.count(1), 11);
                for (int f = 0; f < 11; f++) {
                    int former = f < dropped ? f : f + 1;
                    Check.equal("function " + f, Texts.values(x, f), Texts.values(before, former));
                }
            }
        });
        Holds.holds(F, () -> {
            Edges.functionsThere("f", DecisionDiagrams::drop);
            DecisionDiagrams x = Worlds.full();
            for (int last = 11; last >= 0; last--) {
                x.drop(last);
            }
            Check.equal("all are dropped", x.count(1), 0);
            Check.raises("no more", IndexOutOfBoundsException.class, () -> x.drop(0));
        });
        Holds.holds("Returns the inner nodes that are gone by this.", () -> {
            Check.equal("maj, without c that it shares", new DecisionDiagrams().drop(0), 3);
            Check.equal("odd, without c that it shares", new DecisionDiagrams().drop(1), 4);
            DecisionDiagrams x = new DecisionDiagrams();
            x.drop(0);
            Check.equal("odd alone", x.drop(0), 5);
            DecisionDiagrams y = Texts.system("vars a b;let f a&b;let g a&b;let h 1;let i b;");
            Check.equal("a leaf", y.drop(2), 0);
            Check.equal("one of two equal ones", y.drop(1), 0);
            Check.equal("a part of another one", y.drop(1), 0);
            Check.equal("the last one", y.drop(0), 2);
            Check.equal("no nodes then", y.count(2), 0);
        });
        Holds.holds(NO_FUNCTION, () -> Edges.noFunction("f", DecisionDiagrams::drop));
    }

    private static void setCost() {
        Holds.promise(45);
        Holds.holds("Sets the cost of a variable.", () -> {
            DecisionDiagrams x = Texts.system(EIGHT);
            x.setCost(0, 1);
            x.setCost(7, 2);
            for (int variable = 0; variable < 8; variable++) {
                Check.equal("cost of " + variable, x.variable(variable, 1), variable == 0 ? 1 : variable == 7 ? 2 : 0);
                Check.equal("percentage of " + variable, x.variable(variable, 2), 50);
            }
        });
        Holds.holds(VARIABLE, () -> Edges.variablesThere("variable", (x, variable) -> x.setCost(variable, 1)));
        Holds.holds("- `cost`: 0 to 99", () -> {
            Edges.inside("cost", 0, 99, (x, cost) -> x.setCost(0, cost));
            DecisionDiagrams x = new DecisionDiagrams();
            x.setCost(2, 99);
            Check.equal("99", x.variable(2, 1), 99);
            x.setCost(2, 0);
            Check.equal("0", x.variable(2, 1), 0);
        });
        Holds.holds("Returns the previous cost.", () -> {
            DecisionDiagrams x = new DecisionDiagrams();
            Check.equal("at first", x.setCost(1, 99), 0);
            Check.equal("then", x.setCost(1, 99), 99);
            Check.equal("then", x.setCost(1, 0), 99);
            Check.equal("then", x.setCost(1, 1), 0);
        });
        Holds.holds(NO_VARIABLE, () -> {
            Edges.noVariable("variable", (x, variable) -> x.setCost(variable, 1));
            Edges.noVariable("variable, and no such cost", (x, variable) -> x.setCost(variable, 100));
        });
        Holds.holds("Throws `IllegalArgumentException` if cost is out of range",
                () -> Edges.outside("cost", 0, 99, (x, cost) -> x.setCost(3, cost)));
    }

    private static void setPercent() {
        Holds.promise(46);
        Holds.holds("Sets the percentage of a variable.", () -> {
            DecisionDiagrams x = Texts.system(EIGHT);
            x.setPercent(0, 1);
            x.setPercent(7, 2);
            for (int variable = 0; variable < 8; variable++) {
                int due = variable == 0 ? 1 : variable == 7 ? 2 : 50;
                Check.equal("percentage of " + variable, x.variable(variable, 2), due);
                Check.equal("cost of " + variable, x.variable(variable, 1), 0);
            }
        });
        Holds.holds(VARIABLE, () -> Edges.variablesThere("variable", (x, variable) -> x.setPercent(variable, 1)));
        Holds.holds("- `percent`: 0 to 100", () -> {
            Edges.inside("percent", 0, 100, (x, percent) -> x.setPercent(0, percent));
            DecisionDiagrams x = new DecisionDiagrams();
            x.setPercent(2, 100);
            Check.equal("100", x.variable(2, 2), 100);
            x.setPercent(2, 0);
            Check.equal("0", x.variable(2, 2), 0);
        });
        Holds.holds("Returns the previous percentage.", () -> {
            DecisionDiagrams x = new DecisionDiagrams();
            Check.equal("at first", x.setPercent(1, 100), 50);
            Check.equal("then", x.setPercent(1, 100), 100);
            Check.equal("then", x.setPercent(1, 0), 100);
            Check.equal("then", x.setPercent(1, 1), 0);
        });
        Holds.holds(NO_VARIABLE, () -> {
            Edges.noVariable("variable", (x, variable) -> x.setPercent(variable, 1));
            Edges.noVariable("variable, and no such percentage", (x, variable) -> x.setPercent(variable, 101));
        });
        Holds.holds("Throws `IllegalArgumentException` if percent is out of range",
                () -> Edges.outside("percent", 0, 100, (x, percent) -> x.setPercent(3, percent)));
    }

    private static void script() {
        Holds.promise(47);
        Holds.holds("Reads the buffer as a script and empties it", () -> {
            DecisionDiagrams x = Worlds.busy();
            Check.equal("script", x.script(), 2);
            Check.equal("cost", x.variable(0, 1), 33);
            Check.equal("percentage", x.variable(0, 2), 44);
            Check.raises("the buffer is empty", IllegalArgumentException.class, () -> x.truncate(1));
            Check.equal("append", x.append(0, 0, 0, 0, 0), 20);
            Check.raises("a system is no script", IllegalArgumentException.class, () -> Texts.script(x, "vars a;"));
        });
        Holds.holds(", also if the text has an error.", () -> {
            DecisionDiagrams x = Worlds.busy();
            Texts.put(x, "swap 3;");
            Check.raises("no level 4", IllegalArgumentException.class, x::script);
            Check.raises("the buffer is empty", IllegalArgumentException.class, () -> x.truncate(1));
            Check.equal("append", x.append(0, 0, 0, 0, 0), 20);
        });
        Holds.holds("This is one change, unless there is an error.", () -> {
            for (String text : new String[] {"", "cost a 1;", "cost a 1;cost a 2;drop f;siftall;", "swap 0;".repeat(30)}) {
                DecisionDiagrams x = Worlds.busy();
                String before = Seen.STATE.of(x);
                Texts.script(x, text);
                Check.equal("changes", x.count(6), 5);
                Check.equal("undo", x.undo(), 4);
                Check.equal("undone", Seen.STATE.of(x), before);
            }
            DecisionDiagrams y = Worlds.busy();
            Texts.put(y, "cost a 1;cost a 2;drop f;siftall;swap 3;");
            Check.raises("no level 4", IllegalArgumentException.class, y::script);
            Check.equal("no change", y.count(6), 4);
        });
        Holds.holds("Returns the number of statements that were carried out.", () -> {
            Check.equal("none", Texts.script(Worlds.busy(), ""), 0);
            Check.equal("none, of blanks", Texts.script(Worlds.busy(), " \n".repeat(300)), 0);
            Check.equal("one", Texts.script(Worlds.one(), "siftall;"), 1);
            Check.equal("29", Texts.script(Worlds.busy(), "swap 0;".repeat(29)), 29);
            Check.equal("30", Texts.script(Worlds.busy(), "swap 0;".repeat(30)), 30);
            Check.equal("one of each kind", Texts.script(Worlds.busy(),
                    "let z f;cost a 1;percent a 2;drop z;swap 0;move a 0;sift a;siftall;"), 8);
        });
    }

    private static void scriptWithAnError() {
        Holds.holds("Throws `IllegalArgumentException` if the text has an error", () -> {
            Refused.text(Worlds::busy, "cost a 1;drop f;;", DecisionDiagrams::script, 1, 16);
            Refused.text(Worlds::busy, "siftall;swap 0;swap 3;", DecisionDiagrams::script, 2, 20);
            Refused.text(Worlds::busy, "drop f;drop g;drop f;", DecisionDiagrams::script, 3, 19);
            Refused.text(Worlds::busy, "let z a;percent b 3;let z b;", DecisionDiagrams::script, 4, 24);
            Refused.text(Worlds::full, "drop c;let z a;let y a;", DecisionDiagrams::script, 5, 15);
            Refused.text(Worlds::busy, "swap 1;".repeat(31), DecisionDiagrams::script, 5, 210);
            Refused.text(Worlds::one, "cost a 1;swap 0;", DecisionDiagrams::script, 2, 14);
            Refused.text(Worlds::eight, "move a 7;move h 8;", DecisionDiagrams::script, 2, 16);
            Refused.text(Worlds::none, "drop f;", DecisionDiagrams::script, 3, 5);
            Refused.text(DecisionDiagrams::new, "let z maj&odd;siftall", DecisionDiagrams::script, 1, 21);
        });
    }
}
