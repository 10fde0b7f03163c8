import java.util.ArrayList;
import java.util.List;
import java.util.NoSuchElementException;
import java.util.function.Consumer;
import java.util.function.Supplier;
import java.util.function.ToIntFunction;

/** "What it is" and the terms 1, 2 and 4, sentence by sentence. */
final class TermsSentences {
    private static final String EIGHT = "vars a b c d e f g h;";
    private static final Class<IndexOutOfBoundsException> NO_SUCH = IndexOutOfBoundsException.class;
    private static final Class<IllegalArgumentException> OUT_OF_RANGE = IllegalArgumentException.class;
    private static final Class<IllegalStateException> NOT_NOW = IllegalStateException.class;

    private TermsSentences() {
    }

    static void all() {
        whatItIs();
        variables();
        assignments();
        functions();
        diagram();
        reduced();
        numbered();
        changes();
        remembered();
        severalExceptions();
        refusedCalls();
        kindsOfExceptions();
    }

    private static void whatItIs() {
        Holds.section("What it is");
        Holds.holds("A package for ordered binary decision diagrams.", () -> worlds().forEach(world -> new Shape(world.get())
                .check()));
        Holds.holds("An object is used for at most 512 calls after it has been made; what later calls answer is free.", () -> {
            times256(x -> x.setCost(1, 99), 0, x -> x.setCost(1, 0), 99);
            times256(x -> x.append(0, 0, 0, 0, 0), 20, x -> x.truncate(0), 0);
            times256(x -> x.combine(0, 0, 1), 2, x -> x.undo(), 0);
            times256(x -> x.siftAll(), 8, x -> x.swap(1), 8);
            times256(x -> x.save(0), 8, x -> x.restore(0), 8);
            times256(x -> x.writeFunction(1), 41, x -> x.textByte(40), '4');
            times256(x -> x.script(), 0, x -> x.errorCode(), 0);
            times256(x -> x.sizeOf(2, 0, 1), 5, x -> x.bestLevel(2), 2);
            DecisionDiagrams empty = new DecisionDiagrams();
            for (int call = 1; call <= 512; call++) {
                Check.raises("load as call " + call, OUT_OF_RANGE, empty::load);
            }
        });
    }

    /** Two calls by turns, 512 in all. */
    private static void times256(ToIntFunction<DecisionDiagrams> call, int due, ToIntFunction<DecisionDiagrams> other,
            int otherDue) {
        DecisionDiagrams x = new DecisionDiagrams();
        for (int number = 1; number <= 512; number += 2) {
            Check.equal("call " + number, call.applyAsInt(x), due);
            Check.equal("call " + (number + 1), other.applyAsInt(x), otherDue);
        }
    }

    private static List<Supplier<DecisionDiagrams>> worlds() {
        return List.of(DecisionDiagrams::new, Worlds::busy, Worlds::none, Worlds::one, Worlds::eight, Worlds::eleven,
                Worlds::full, TermsSentences::mixed, TermsSentences::siftedDown);
    }

    /** Functions that share nodes at all levels, leaves and equal ones among them. */
    private static DecisionDiagrams mixed() {
        return Texts.system("vars a b c d e;let f a&b|c&d|e;let g 0;let h c&d|e;let i f;let j 1;let k e;let l !f;"
                + "let m if(a,h,l);let n b^e;");
    }

    private static DecisionDiagrams siftedDown() {
        DecisionDiagrams x = mixed();
        x.move(0, 4);
        x.swap(1);
        x.drop(0);
        return x;
    }

    private static void variables() {
        Holds.section("Terms 1");
        Holds.holds("There are 1 to 8 variables, numbered from 0, each with a name,", () -> {
            DecisionDiagrams one = Texts.system("vars z;");
            Check.equal("one", one.count(0), 1);
            Check.equal("its name", Texts.order(one), "z");
            Check.equal("number 0", one.variableAt(0), 0);
            Check.raises("no number 1", NO_SUCH, () -> one.variable(1, 0));
            DecisionDiagrams eight = Texts.system(EIGHT);
            Check.equal("eight", eight.count(0), 8);
            Check.equal("their names", Texts.order(eight), "a,b,c,d,e,f,g,h");
            Check.equal("number 7", eight.variableAt(7), 7);
            Check.raises("no number 8", NO_SUCH, () -> eight.variable(8, 0));
            Check.raises("no number -1", NO_SUCH, () -> eight.variable(-1, 0));
            Refused.text(Worlds::busy, "vars;", DecisionDiagrams::load, 1, 4);
            Refused.text(Worlds::busy, "vars a b c d e f g h i;", DecisionDiagrams::load, 5, 21);
        });
        Holds.holds("a cost (0 to 99, 0 at first)", () -> {
            DecisionDiagrams x = Texts.system(EIGHT);
            for (int variable = 0; variable < 8; variable++) {
                Check.equal("at first", x.variable(variable, 1), 0);
            }
            x.setCost(0, 99);
            Check.equal("99", x.variable(0, 1), 99);
            x.setCost(0, 0);
            Check.equal("0", x.variable(0, 1), 0);
            Refused.outside("cost", 0, 99, OUT_OF_RANGE, Worlds::eight, (y, cost) -> y.setCost(7, cost));
        });
        Holds.holds("and a percentage (0 to 100, 50 at first).", () -> {
            DecisionDiagrams x = Texts.system(EIGHT);
            for (int variable = 0; variable < 8; variable++) {
                Check.equal("at first", x.variable(variable, 2), 50);
            }
            x.setPercent(0, 100);
            Check.equal("100", x.variable(0, 2), 100);
            x.setPercent(0, 0);
            Check.equal("0", x.variable(0, 2), 0);
            Refused.outside("percentage", 0, 100, OUT_OF_RANGE, Worlds::eight, (y, percent) -> y.setPercent(7, percent));
        });
    }

    private static void assignments() {
        Holds.holds("An assignment gives each variable the value 0 or 1. Assignments are numbered: the number is the sum of 2 "
                + "to the power v over all variables v that have the value 1.", () -> {
            DecisionDiagrams x = Texts.system(EIGHT + "let i a;let j b;let k c;let l d;let m e;let n f;let o g;let p h;");
            for (int variable = 0; variable < 8; variable++) {
                int number = variable;
                for (int assignment : new int[] {0, 1, 2, 4, 8, 16, 32, 64, 85, 128, 170, 254, 255}) {
                    Check.equal("variable " + variable, x.value(variable, assignment), assignment >> variable & 1);
                }
                Check.raises("assignment 256", OUT_OF_RANGE, () -> x.value(number, 256));
                Check.raises("assignment -1", OUT_OF_RANGE, () -> x.value(number, -1));
            }
        });
        Holds.holds("A function gives each assignment the value 0 or 1.", () -> {
            DecisionDiagrams x = mixed();
            Check.equal("0", Texts.values(x, 1), "0".repeat(32));
            Check.equal("1", Texts.values(x, 4), "1".repeat(32));
            Check.equal("e", Texts.values(x, 5), "0".repeat(16) + "1".repeat(16));
        });
        Holds.holds("An assignment with the value 1 is a model of the function.", () -> {
            for (int f = 0; f < 12; f++) {
                DecisionDiagrams x = Worlds.full();
                int models = 0;
                for (int assignment = 0; assignment < 4; assignment++) {
                    if (x.value(f, assignment) == 1) {
                        Check.equal("a model", x.model(f, models), assignment);
                        models++;
                    }
                }
                Check.equal("all models", x.function(f, 2), models);
            }
        });
        Holds.holds("A function depends on a variable if there are two assignments that differ in this variable alone, for "
                + "which the function has different values.", () -> {
            DecisionDiagrams x = Texts.system(EIGHT + "let i a&b&c&d&e&f&g&h;let j a&!a|h&(b|!b);let k (a|b)&(a|!b);");
            Check.equal("just two such assignments", x.support(0), 255);
            Check.equal("none with a or b", x.support(1), 128);
            Check.equal("none with b", x.support(2), 1);
        });
    }

    private static void functions() {
        Holds.holds("There are at most 12 functions, numbered from 0.", () -> {
            DecisionDiagrams x = new DecisionDiagrams();
            for (int number = 2; number < 12; number++) {
                Check.equal("number", x.negate(number - 1), number);
            }
            Check.equal("twelve", x.count(1), 12);
            Check.equal("number 11", x.function(11, 3), 3);
            Check.raises("no number 12", NO_SUCH, () -> x.function(12, 3));
            Check.raises("no 13th", NOT_NOW, () -> x.negate(0));
            Check.equal("still twelve", x.count(1), 12);
            Check.equal("none", Worlds.none().count(1), 0);
            Check.raises("no number 0 of none", NO_SUCH, () -> Worlds.none().function(0, 3));
        });
        Holds.holds("A function from a text has a name; a function that was made by a method has none.", () -> {
            DecisionDiagrams x = new DecisionDiagrams();
            Texts.script(x, "let z a;");
            Check.equal("from a system", x.function(0, 4), 3);
            Check.equal("from a script", x.function(2, 4), 1);
            Check.equal("combine", x.function(x.combine(0, 0, 0), 4), 0);
            Check.equal("choose", x.function(x.choose(0, 0, 0), 4), 0);
            Check.equal("negate", x.function(x.negate(0), 4), 0);
            Check.equal("restrict", x.function(x.restrict(0, 0, true), 4), 0);
            Check.equal("quantify", x.function(x.quantify(0, 0, true), 4), 0);
            Check.equal("compose", x.function(x.compose(0, 0, 0), 4), 0);
            Texts.put(x, "");
            Check.raises("no name is not the empty name", NoSuchElementException.class, x::find);
        });
        Holds.holds("If a function is dropped, the numbers of those behind it become 1 less.", () -> {
            String names = "cdefghijklmn";
            for (int dropped = 0; dropped < 12; dropped++) {
                DecisionDiagrams x = Worlds.full();
                x.drop(dropped);
                for (int f = 0; f < 12; f++) {
                    Texts.put(x, names.substring(f, f + 1));
                    if (f == dropped) {
                        Check.raises("the dropped one", NoSuchElementException.class, x::find);
                    } else {
                        Check.equal("number", x.find(), f < dropped ? f : f - 1);
                    }
                }
            }
        });
    }

    private static void diagram() {
        Holds.section("Terms 2");
        Holds.holds("The order is a sequence of all variables; the first one is at level 0.", () -> {
            for (Supplier<DecisionDiagrams> world : worlds()) {
                DecisionDiagrams x = world.get();
                for (int variable = 0; variable < x.count(0); variable++) {
                    Check.equal("the variable at its level", x.variableAt(x.variable(variable, 0)), variable);
                }
            }
            DecisionDiagrams x = Texts.system(EIGHT);
            Check.equal("level 0", x.variable(0, 0), 0);
            x.move(7, 0);
            Check.equal("level 0 then", x.variable(7, 0), 0);
            Check.equal("level 1 then", x.variable(0, 0), 1);
        });
        Holds.holds("A diagram consists of nodes. There are two leaves, leaf 0 and leaf 1.", () -> {
            for (Supplier<DecisionDiagrams> world : worlds()) {
                Check.equal("leaf 0", world.get().node(0, 0), -1);
                Check.equal("leaf 1", world.get().node(1, 0), -1);
            }
            Check.raises("nothing else", NO_SUCH, () -> Worlds.none().node(2, 0));
        });
        Holds.holds("Each other node, an inner node, tests a variable and has two children: the low child for the value 0 of "
                + "this variable, and the high child for the value 1.", () -> {
            DecisionDiagrams x = Texts.system("vars a b;let f !a;let g b;let h a>b;");
            Check.equal("!a", Texts.function(x, 0), "2;2:a 1,0");
            Check.equal("b", Texts.function(x, 1), "3;3:b 0,1");
            Check.equal("a>b", Texts.function(x, 2), "4;3:b 0,1;4:a 1,3");
        });
        Holds.holds("Children test variables of greater levels or are leaves. Each function has a root, which is a node.",
                () -> worlds().forEach(world -> new Shape(world.get()).checkLevels()));
        Holds.holds("A function is followed from its root: at each inner node to the child for the value of the tested "
                + "variable; the leaf that is reached is its value.",
                () -> worlds().forEach(world -> new Shape(world.get()).checkValues(world.get())));
    }

    private static void reduced() {
        Holds.holds("The diagram is reduced: no inner node has twice the same child, no two inner nodes test the same "
                + "variable and have the same low child and the same high child,", () -> {
            worlds().forEach(world -> new Shape(world.get()).checkReduced());
            DecisionDiagrams x = Texts.system("vars a b;let f if(a,b,b);let g if(a,b,!b);let h if(a,!b,b);");
            Check.equal("b alone", Texts.function(x, 0), "2;2:b 0,1");
            Check.equal("size", x.count(2), 4);
        });
        Holds.holds("and each inner node is reached from the root of a function.", () -> {
            worlds().forEach(world -> new Shape(world.get()).checkReached());
            DecisionDiagrams x = Worlds.full();
            for (int left = 11; left >= 0; left--) {
                x.drop(left / 2);
                new Shape(x).checkReached();
            }
            Check.equal("without functions", x.count(2), 0);
        });
        Holds.holds("(So there is one such diagram for each order, and equal functions have the same root.)", () -> {
            DecisionDiagrams x = Texts.system("vars a b c;let f a&b|c;let g !(!c&(!a|!b));let h if(c,1,b&a);let i a;");
            Check.equal("f and g", x.function(1, 0), x.function(0, 0));
            Check.equal("f and h", x.function(2, 0), x.function(0, 0));
            Check.equal("i is another one", x.function(3, 0), 5);
            String before = Seen.STATE.of(x);
            x.swap(0);
            x.swap(1);
            x.move(1, 2);
            x.move(0, 0);
            x.move(1, 1);
            Check.equal("the order again", Texts.order(x), "a,b,c");
            Check.equal("the diagram again", Seen.STATE.of(x), before);
        });
    }

    private static void numbered() {
        Holds.holds("Nodes are numbered: leaf 0 is 0, leaf 1 is 1.", () -> {
            DecisionDiagrams x = Texts.system("vars a;let f 1;let g 0;");
            Check.equal("1", x.function(0, 0), 1);
            Check.equal("0", x.function(1, 0), 0);
            Check.equal("of an empty diagram", Worlds.none().node(1, 4), 0);
        });
        Holds.holds("The functions are gone through by ascending numbers, beginning with the root of each: if an inner node is "
                + "visited that has no number, it gets the next number, from 2 on, then its low child is visited, and then "
                + "its high child.", () -> {
            worlds().forEach(world -> new Shape(world.get()).checkNumbers());
            // 2:a with low 3:b, whose low is 4:c and high 5:c, and high 6:b; then what odd adds
            DecisionDiagrams x = Texts.system("vars a b c;let f a^b^c;let g b&c;let h c|b;");
            Check.equal("f", Texts.function(x, 0), "2;2:a 3,6;3:b 4,5;4:c 0,1;5:c 1,0;6:b 5,4");
            Check.equal("g", Texts.function(x, 1), "7;4:c 0,1;7:b 0,4");
            Check.equal("h", Texts.function(x, 2), "8;4:c 0,1;8:b 4,1");
            x.drop(0);
            Check.equal("g then", Texts.function(x, 0), "2;2:b 0,3;3:c 0,1");
            Check.equal("h then", Texts.function(x, 1), "4;3:c 0,1;4:b 3,1");
        });
        Holds.holds("The size of a function is the number of inner nodes that are reached from its root. The size of the "
                + "diagram is the number of all inner nodes.", () -> {
            worlds().forEach(world -> new Shape(world.get()).checkSizes(world.get()));
            Check.equal("of a leaf", mixed().function(1, 1), 0);
            Check.equal("of nothing", Worlds.none().count(2), 0);
        });
    }

    /** What the methods under "changes" do without making anything different, where they can. */
    private static List<Consumer<DecisionDiagrams>> changesOfBusy() {
        return List.of(x -> x.combine(0, 0, 0), x -> x.choose(0, 0, 0), x -> x.negate(0), x -> x.restrict(0, 0, true),
                x -> x.quantify(0, 0, true), x -> x.compose(0, 0, 0), x -> x.drop(3), x -> x.swap(0),
                x -> x.move(0, 3), x -> x.sift(0), DecisionDiagrams::siftAll, x -> x.setCost(0, 9),
                x -> x.setPercent(0, 20), x -> Texts.script(x, ""), x -> Texts.script(x, "cost a 9;"));
    }

    private static List<Consumer<DecisionDiagrams>> otherCalls() {
        List<Consumer<DecisionDiagrams>> calls = new ArrayList<>(List.of(x -> x.append(0, 0, 0, 0, 0), x -> x.truncate(0),
                x -> x.errorCode(), x -> x.errorPosition(), x -> x.count(0), x -> x.variable(0, 0), x -> x.variableAt(0),
                x -> x.function(0, 0), x -> Texts.find(x, "f"), x -> x.node(0, 0), x -> x.value(0, 0), x -> x.model(0, 0),
                x -> x.support(0), x -> x.polarity(0, 0), x -> x.influence(0, 0), x -> x.paths(0, 0),
                x -> x.shortest(0, 0), x -> x.longest(0), x -> x.cheapest(0), x -> x.cheapestModel(0), x -> x.chance(0)));
        calls.addAll(List.of(x -> x.same(0, 1), x -> x.implies(0, 1), x -> x.difference(0, 1), x -> x.twin(0),
                x -> x.common(0, 1), x -> x.pairs(0, 1), x -> x.sizeOf(0, 0, 1), x -> x.sizeIf(0, 0), x -> x.bestLevel(0),
                x -> x.width(0), x -> x.save(1), x -> x.writeFunction(0), x -> x.writeOrder(), x -> x.textByte(0)));
        return calls;
    }

    private static void changes() {
        Holds.section("Terms 4");
        Holds.holds("Changes are the calls of the methods under \"changes\" that throw no exception,", () -> {
            for (Consumer<DecisionDiagrams> change : changesOfBusy()) {
                DecisionDiagrams x = Worlds.busy();
                change.accept(x);
                Check.equal("a change", x.count(6), 5);
            }
            for (Consumer<DecisionDiagrams> call : otherCalls()) {
                DecisionDiagrams x = Worlds.busy();
                String state = Seen.STATE.of(x);
                call.accept(x);
                Check.equal("no change", x.count(6), 4);
                Check.equal("nothing is different", Seen.STATE.of(x), state);
            }
            Check.equal("calls of all methods but load, undo and restore", changesOfBusy().size() + otherCalls().size(), 50);
        });
        Holds.holds("even if nothing is different then.", () -> {
            nothingDifferent(Worlds::busy, List.of(x -> x.move(0, 3), x -> x.move(1, 0), x -> x.setCost(0, 9),
                    x -> x.setPercent(0, 20), x -> Texts.script(x, ""), x -> Texts.script(x, " \n"),
                    x -> Texts.script(x, "swap 0;swap 0;")));
            nothingDifferent(Worlds::one, List.of(x -> x.move(0, 0), x -> x.sift(0), DecisionDiagrams::siftAll,
                    x -> Texts.script(x, "siftall;")));
            nothingDifferent(Worlds::none, List.of(x -> x.sift(1), DecisionDiagrams::siftAll));
        });
    }

    private static void nothingDifferent(Supplier<DecisionDiagrams> world, List<Consumer<DecisionDiagrams>> changes) {
        for (Consumer<DecisionDiagrams> change : changes) {
            DecisionDiagrams x = world.get();
            int before = x.count(6);
            change.accept(x);
            Check.equal("nothing is different", Seen.STATE.of(x), Seen.STATE.of(world.get()));
            Check.equal("one more change", x.count(6), before + 1);
            Check.equal("undo", x.undo(), before);
            Check.equal("all is as before", Seen.HISTORY.of(x), Seen.HISTORY.of(world.get()));
        }
    }

    private static void remembered() {
        Holds.holds("Ahead of each change the state (functions, order, costs and percentages) is remembered;", () -> {
            List<Consumer<DecisionDiagrams>> changes = new ArrayList<>(changesOfBusy());
            changes.addAll(List.of(x -> x.drop(0), x -> x.move(0, 0), x -> x.setCost(3, 99), x -> x.setPercent(3, 0),
                    x -> Texts.script(x, "drop f;drop g;let z one;move a 1;cost d 4;percent d 5;siftall;")));
            for (Consumer<DecisionDiagrams> change : changes) {
                DecisionDiagrams x = Worlds.busy();
                String state = Seen.STATE.of(x);
                change.accept(x);
                x.undo();
                Check.equal("undone", Seen.STATE.of(x), state);
                Check.equal("names", Seen.NAMES.of(x), Seen.NAMES.of(Worlds.busy()));
            }
        });
        Holds.holds("the latest 8 can be undone.", () -> {
            for (int changes : new int[] {7, 8, 9, 10, 15, 16, 17}) {
                DecisionDiagrams x = new DecisionDiagrams();
                for (int cost = 1; cost <= changes; cost++) {
                    x.setCost(0, cost);
                }
                int undone = 0;
                while (x.count(6) > 0) {
                    x.undo();
                    undone++;
                    Check.equal("cost", x.variable(0, 1), changes - undone);
                }
                Check.equal("of " + changes, undone, Math.min(changes, 8));
                Check.raises("one more", NOT_NOW, x::undo);
            }
        });
    }

    private static void first(Class<? extends RuntimeException> due, Supplier<DecisionDiagrams> world,
            List<Consumer<DecisionDiagrams>> calls) {
        for (int call = 0; call < calls.size(); call++) {
            Refused.refused("call " + call, due, world, calls.get(call));
        }
    }

    private static void severalExceptions() {
        Holds.holds("If several exceptions apply to a call, the one that is listed first at the method is thrown.", () -> {
            first(NO_SUCH, Worlds::busy, List.of(x -> x.variable(4, 6), x -> x.function(4, 5), x -> x.node(13, 6),
                    x -> x.value(4, 16), x -> x.model(4, -1), x -> x.paths(4, 2), x -> x.shortest(4, 2),
                    x -> x.sizeOf(6, 4, 0), x -> x.sizeOf(6, 0, 4), x -> x.combine(6, 4, 0), x -> x.combine(6, 0, 4),
                    x -> x.setCost(4, 100), x -> x.setPercent(4, 101)));
            first(NO_SUCH, Worlds::full, List.of(x -> x.combine(0, 12, 0), x -> x.combine(0, 0, 12),
                    x -> x.combine(6, 12, 0), x -> x.choose(12, 0, 0), x -> x.choose(0, 12, 0), x -> x.choose(0, 0, 12),
                    x -> x.negate(12), x -> x.restrict(12, 0, true), x -> x.restrict(0, 2, true),
                    x -> x.quantify(12, 0, true), x -> x.quantify(0, 2, true), x -> x.compose(12, 0, 0),
                    x -> x.compose(0, 2, 0), x -> x.compose(0, 0, 12)));
            first(OUT_OF_RANGE, Worlds::full, List.of(x -> x.combine(6, 0, 0), x -> x.combine(-1, 11, 11)));
            first(NO_SUCH, DecisionDiagrams::new, List.of(x -> x.restore(2), x -> x.restore(-1)));
        });
    }

    private static void refusedCalls() {
        Holds.holds("A method that throws an exception changes nothing, unless the method says otherwise.", () -> {
            first(NO_SUCH, Worlds::eight, List.of(x -> x.variable(8, 0), x -> x.variableAt(8), x -> x.function(2, 0),
                    x -> x.node(16, 0), x -> x.value(2, 0), x -> x.model(2, 0), x -> x.support(2), x -> x.polarity(0, 8),
                    x -> x.influence(0, 8), x -> x.paths(2, 0), x -> x.shortest(2, 0), x -> x.longest(2),
                    x -> x.cheapest(2), x -> x.cheapestModel(2), x -> x.chance(2), x -> x.same(0, 2),
                    x -> x.implies(2, 0), x -> x.difference(0, 2), x -> x.twin(2), x -> x.common(2, 0)));
            first(NO_SUCH, Worlds::eight, List.of(x -> x.pairs(0, 2), x -> x.sizeOf(0, 2, 0), x -> x.sizeIf(8, 0),
                    x -> x.bestLevel(8), x -> x.width(8), x -> x.combine(0, 0, 2), x -> x.choose(0, 0, 2),
                    x -> x.negate(2), x -> x.restrict(0, 8, true), x -> x.quantify(0, 8, true), x -> x.compose(0, 8, 0),
                    x -> x.drop(2), x -> x.swap(7), x -> x.move(0, 8), x -> x.sift(8), x -> x.setCost(8, 0),
                    x -> x.setPercent(8, 0), x -> x.save(2), x -> x.restore(2), x -> x.writeFunction(2)));
            first(NO_SUCH, Worlds::eight, List.of(x -> x.textByte(15)));
            first(NoSuchElementException.class, Worlds::eight, List.of(x -> x.find(), x -> x.model(0, 256)));
            first(NOT_NOW, Worlds::eight, List.of(x -> x.restore(1)));
        });
    }

    private static void kindsOfExceptions() {
        Holds.holds("A function, variable, level or node that does not exist causes an IndexOutOfBoundsException,", () -> {
            first(NO_SUCH, Worlds::busy, List.of(x -> x.support(4), x -> x.support(-1), x -> x.bestLevel(4),
                    x -> x.bestLevel(-1), x -> x.width(4), x -> x.width(-1), x -> x.node(13, 0), x -> x.node(-1, 0)));
            first(NO_SUCH, Worlds::none, List.of(x -> x.support(0), x -> x.node(2, 0), x -> x.drop(0)));
        });
        Holds.holds("another argument that is out of its range an IllegalArgumentException,", () -> {
            first(OUT_OF_RANGE, Worlds::busy, List.of(x -> x.count(7), x -> x.count(-1), x -> x.variable(0, 6),
                    x -> x.function(0, 5), x -> x.node(0, 6), x -> x.value(0, 16), x -> x.paths(0, 2),
                    x -> x.shortest(0, 2), x -> x.sizeOf(6, 0, 0), x -> x.combine(6, 0, 0), x -> x.setCost(0, 100),
                    x -> x.setPercent(0, 101), x -> x.truncate(24), x -> x.truncate(-1)));
        });
        Holds.holds("and a 13th function an IllegalStateException.", () -> {
            first(NOT_NOW, Worlds::full, List.of(x -> x.combine(0, 0, 0), x -> x.choose(0, 0, 0), x -> x.negate(0),
                    x -> x.restrict(0, 0, true), x -> x.quantify(0, 0, true), x -> x.compose(0, 0, 0)));
            Refused.text(Worlds::full, "let z a;", DecisionDiagrams::script, 5, 0);
        });
        Holds.holds("The constants: `NONE = -1`: There is no such thing.", () -> {
            Check.equal("NONE", DecisionDiagrams.NONE, -1);
            Check.equal("no error", new DecisionDiagrams().errorPosition(), -1);
            Check.equal("no twin", new DecisionDiagrams().twin(0), -1);
            Check.equal("no difference", new DecisionDiagrams().difference(0, 0), -1);
            Check.equal("no child", new DecisionDiagrams().node(0, 1), -1);
        });
    }
}
