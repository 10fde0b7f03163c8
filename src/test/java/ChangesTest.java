import java.util.List;
import java.util.function.Consumer;

/** Promises 45 to 50, and terms 4: costs, percentages, scripts, undo and saved states. */
final class ChangesTest {
    public static void main(String[] args) {
        setCost();
        setPercent();
        script();
        scriptIsOneChange();
        scriptWithAnError();
        undo();
        undoOfEachKind();
        whatUndoLeaves();
        save();
        restore();
        Check.finish("ChangesTest");
    }

    /** All that belongs to a state. */
    private static String state(DecisionDiagrams x) {
        StringBuilder state = new StringBuilder(Texts.order(x));
        for (int variable = 0; variable < x.count(0); variable++) {
            state.append(' ').append(x.variable(variable, 1)).append('/').append(x.variable(variable, 2));
        }
        for (int f = 0; f < x.count(1); f++) {
            state.append(' ').append(x.function(f, 4)).append(':').append(Texts.function(x, f));
        }
        return state.toString();
    }

    /** Promise 45. */
    private static void setCost() {
        DecisionDiagrams x = new DecisionDiagrams();
        Check.equal("setCost(1, 99)", x.setCost(1, 99), 0);
        Check.equal("setCost(1, 0)", x.setCost(1, 0), 99);
        Check.equal("setCost(1, 7)", x.setCost(1, 7), 0);
        Check.equal("setCost(1, 7)", x.setCost(1, 7), 7);
        Check.equal("cost", x.variable(1, 1), 7);
        Check.equal("cost of another one", x.variable(0, 1), 0);
        Check.equal("changes", x.count(6), 4);
        for (int cost : new int[] {-1, 100, Integer.MIN_VALUE, Integer.MAX_VALUE}) {
            Check.raises("setCost(1, " + cost + ")", IllegalArgumentException.class, () -> x.setCost(1, cost));
            Check.raises("setCost(3, " + cost + ")", IndexOutOfBoundsException.class, () -> x.setCost(3, cost));
        }
        for (int variable : new int[] {-1, 3, 8, Integer.MIN_VALUE, Integer.MAX_VALUE}) {
            Check.raises("setCost", IndexOutOfBoundsException.class, () -> x.setCost(variable, 1));
        }
        Check.equal("cost", x.variable(1, 1), 7);
        Check.equal("changes", x.count(6), 4);
    }

    /** Promise 46. */
    private static void setPercent() {
        DecisionDiagrams x = new DecisionDiagrams();
        Check.equal("setPercent(2, 100)", x.setPercent(2, 100), 50);
        Check.equal("setPercent(2, 0)", x.setPercent(2, 0), 100);
        Check.equal("setPercent(2, 7)", x.setPercent(2, 7), 0);
        Check.equal("setPercent(2, 7)", x.setPercent(2, 7), 7);
        Check.equal("percentage", x.variable(2, 2), 7);
        Check.equal("percentage of another one", x.variable(0, 2), 50);
        Check.equal("changes", x.count(6), 4);
        for (int percent : new int[] {-1, 101, Integer.MIN_VALUE, Integer.MAX_VALUE}) {
            Check.raises("setPercent(2, " + percent + ")", IllegalArgumentException.class,
                    () -> x.setPercent(2, percent));
            Check.raises("setPercent(3, " + percent + ")", IndexOutOfBoundsException.class,
                    () -> x.setPercent(3, percent));
        }
        for (int variable : new int[] {-1, 3, 8, Integer.MIN_VALUE, Integer.MAX_VALUE}) {
            Check.raises("setPercent", IndexOutOfBoundsException.class, () -> x.setPercent(variable, 1));
        }
        Check.equal("percentage", x.variable(2, 2), 7);
        Check.equal("changes", x.count(6), 4);
    }

    /** Promise 47. */
    private static void script() {
        DecisionDiagrams x = new DecisionDiagrams();
        Check.equal("statements", Texts.script(x, "cost a 7;percent b 9;let f a&!b;drop maj;swap 1;move a 2;"), 6);
        Check.equal("the buffer is empty", x.append(0, 0, 0, 0, 0), 20);
        Check.equal("cost", x.variable(0, 1), 7);
        Check.equal("percentage", x.variable(1, 2), 9);
        Check.equal("functions", x.count(1), 2);
        Check.equal("odd", Texts.find(x, "odd"), 0);
        Check.equal("f", Texts.find(x, "f"), 1);
        Check.equal("values of f", Texts.values(x, 1), "01000100");
        Check.equal("order", Texts.order(x), "c,b,a");
        Check.equal("no statement", Texts.script(x, ""), 0);
        Check.equal("no statement", Texts.script(x, "\n "), 0);
        Check.equal("30 statements", Texts.script(x, "cost a 1;".repeat(30)), 30);
        Check.equal("each one sees what came before", Texts.script(x, "let g f&c;let h g|a;drop g;let g h;drop h;"), 5);
        Check.equal("g", Texts.find(x, "g"), 2);
        Check.equal("values of g", Texts.values(x, 2), "01010101");
        DecisionDiagrams y = Texts.system("vars a c e b d f;let g a&b|c&d|e&f;");
        Texts.script(y, "sift b;");
        Check.equal("sift", Texts.order(y), "b,a,c,e,d,f");
        Texts.script(y, "siftall;");
        Check.equal("siftall", y.count(2), 6);
    }

    private static void scriptIsOneChange() {
        DecisionDiagrams x = new DecisionDiagrams();
        String before = state(x);
        Texts.script(x, "cost a 7;percent b 9;let f a&!b;drop maj;swap 1;move a 2;siftall;");
        Check.equal("one change", x.count(6), 1);
        Check.equal("undo", x.undo(), 0);
        Check.equal("undone", state(x), before);
        Texts.script(x, "");
        Check.equal("the empty script is one, too", x.count(6), 1);
    }

    private static void scriptWithAnError() {
        DecisionDiagrams x = new DecisionDiagrams();
        x.setCost(2, 4);
        x.save(0);
        String before = state(x);
        Texts.put(x, "cost a 7;percent b 9;let f a&!b;drop maj;swap 1;siftall;move a 2;move a 3;");
        Check.raises("no level 3", IllegalArgumentException.class, x::script);
        Check.equal("code", x.errorCode(), 2);
        Check.equal("position", x.errorPosition(), 72);
        Check.equal("nothing has changed", state(x), before);
        Check.equal("no change", x.count(6), 1);
        Check.equal("the buffer is empty", x.append(0, 0, 0, 0, 0), 20);
        Check.equal("undo", x.undo(), 0);
        Check.equal("restore", x.restore(0), 8);
        Check.equal("restored", state(x), before);
    }

    /** Promise 48. */
    private static void undo() {
        DecisionDiagrams x = new DecisionDiagrams();
        Check.raises("nothing to undo", IllegalStateException.class, x::undo);
        for (int cost = 1; cost <= 11; cost++) {
            x.setCost(0, cost);
        }
        for (int left = 7; left >= 0; left--) {
            Check.equal("undo", x.undo(), left);
            Check.equal("cost", x.variable(0, 1), 3 + left);
        }
        Check.raises("the latest 8 alone", IllegalStateException.class, x::undo);
        Check.equal("cost", x.variable(0, 1), 3);
        x.setCost(0, 50);
        x.setCost(0, 51);
        x.undo();
        x.setCost(0, 60);
        Check.equal("undo", x.undo(), 1);
        Check.equal("cost", x.variable(0, 1), 50);
        Check.equal("undo", x.undo(), 0);
        Check.equal("cost", x.variable(0, 1), 3);
    }

    private static void undoOfEachKind() {
        List<Consumer<DecisionDiagrams>> changes = List.of(x -> x.combine(0, 0, 1), x -> x.choose(0, 1, 0),
                x -> x.negate(1), x -> x.restrict(0, 0, true), x -> x.quantify(0, 2, true), x -> x.compose(0, 1, 1),
                x -> x.drop(0), x -> x.swap(0), x -> x.move(2, 0), x -> x.sift(1), DecisionDiagrams::siftAll,
                x -> x.setCost(1, 5), x -> x.setPercent(1, 6), x -> Texts.script(x, "let z a;cost c 9;drop odd;"));
        for (Consumer<DecisionDiagrams> change : changes) {
            DecisionDiagrams x = changedOnce();
            change.accept(x);
            Check.equal("one more", x.count(6), 2);
            Check.equal("one less", x.undo(), 1);
            Check.equal("undone", Seen.STATE.of(x), Seen.STATE.of(changedOnce()));
            change.accept(x);
            DecisionDiagrams y = changedOnce();
            change.accept(y);
            Check.equal("done again", Seen.STATE.of(x), Seen.STATE.of(y));
        }
    }

    private static DecisionDiagrams changedOnce() {
        DecisionDiagrams x = new DecisionDiagrams();
        Texts.script(x, "move b 0;cost a 3;let other maj&!odd;");
        return x;
    }

    private static void whatUndoLeaves() {
        DecisionDiagrams x = new DecisionDiagrams();
        x.setCost(0, 5);
        x.save(0);
        x.writeOrder();
        Texts.put(x, "cost q 1;");
        Check.raises("no variable q", IllegalArgumentException.class, x::script);
        Texts.put(x, "odd");
        x.undo();
        Check.equal("the buffer stays", x.find(), 1);
        Check.equal("the code stays", x.errorCode(), 3);
        Check.equal("the position stays", x.errorPosition(), 5);
        Check.equal("the written text stays", Texts.written(x, 5), "a,b,c");
        x.restore(0);
        Check.equal("the saved state stays", x.variable(0, 1), 5);
    }

    /** Promise 49. */
    private static void save() {
        DecisionDiagrams x = new DecisionDiagrams();
        Check.equal("save(0)", x.save(0), 8);
        x.drop(0);
        Check.equal("save(1)", x.save(1), 5);
        Check.equal("no change", x.count(6), 1);
        x.drop(0);
        Check.equal("save(1) again", x.save(1), 0);
        Check.equal("slot 1 holds the later one", x.restore(1), 0);
        Check.equal("functions", x.count(1), 0);
        Check.equal("slot 0 holds the first one", x.restore(0), 8);
        for (int slot : new int[] {-1, 2, Integer.MIN_VALUE, Integer.MAX_VALUE}) {
            Check.raises("save(" + slot + ")", IndexOutOfBoundsException.class, () -> x.save(slot));
        }
    }

    /** Promise 50. */
    private static void restore() {
        DecisionDiagrams x = new DecisionDiagrams();
        for (int slot : new int[] {-1, 2, Integer.MIN_VALUE, Integer.MAX_VALUE}) {
            Check.raises("restore(" + slot + ")", IndexOutOfBoundsException.class, () -> x.restore(slot));
        }
        Texts.script(x, "cost a 7;percent b 9;let f a&!b;drop maj;swap 1;");
        String before = state(x);
        int size = x.save(1);
        Check.raises("restore(0)", IllegalStateException.class, () -> x.restore(0));
        Check.equal("nothing has changed", x.count(6), 1);
        Texts.script(x, "cost a 8;percent b 8;let g f;drop odd;swap 0;");
        x.negate(0);
        String written = Texts.order(x);
        Texts.put(x, "f");
        Check.equal("restore(1)", x.restore(1), size);
        Check.equal("the written text stays", Texts.written(x, written.length()), written);
        Check.equal("the buffer stays", x.find(), 1);
        Check.equal("restored", state(x), before);
        Check.equal("nothing to undo", x.count(6), 0);
        Check.raises("undo", IllegalStateException.class, x::undo);
        x.drop(0);
        x.swap(0);
        x.undo();
        Check.equal("it stays saved", x.restore(1), size);
        Check.equal("restored again", state(x), before);
        Check.raises("restore(0)", IllegalStateException.class, () -> x.restore(0));
    }
}
