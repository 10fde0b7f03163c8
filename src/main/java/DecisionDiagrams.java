import java.util.Arrays;
import java.util.NoSuchElementException;

/**
 * A package for ordered binary decision diagrams: a few Boolean functions of a few variables, kept as one shared,
 * reduced diagram. What each call answers is promised in the document DOC.md.
 *
 * <p>The functions are held as truth tables, and the diagram is drawn from them when it is asked for. All rows are
 * made once, with the object; no call makes another one.
 */
public final class DecisionDiagrams {
    /** There is no such thing. */
    public static final int NONE = -1;

    private static final int MAX_VARIABLES = 8;
    private static final int MAX_FUNCTIONS = 12;
    private static final int MAX_BYTES = 600;
    private static final int MAX_LETTERS = 7;
    private static final int MAX_COST = 99;
    private static final int MAX_PERCENT = 100;
    private static final int SLOTS_TO_SAVE = 2;
    private static final int LEAVES = 2;

    private static final int AND = 0;
    private static final int OR = 1;
    private static final int UNEQUAL = 2;
    private static final int IMPLIED = 3;
    private static final int EQUAL = 4;
    private static final int WITHOUT = 5;
    private static final int OPERATORS = 6;

    private static final String FIRST_SYSTEM = "vars a b c;let maj a&b|b&c|a&c;let odd a^b^c;";

    private final Input input = new Input();
    private final Reader reader = new Reader();
    private final State state = new State();
    private final History history = new History();
    private final Diagram diagram = new Diagram();
    private final Sifter sifter = new Sifter();
    private final Written written = new Written();
    private boolean drawn;

    public DecisionDiagrams() {
        input.addText(FIRST_SYSTEM);
        reader.readSystem(input);
        input.length = 0;
        state.become(reader.draft);
    }

    // ---- input

    public int append(int a, int b, int c, int d, int e) throws IllegalStateException {
        if (input.length + 20 > MAX_BYTES) {
            throw new IllegalStateException("the buffer is full");
        }
        input.addFour(a);
        input.addFour(b);
        input.addFour(c);
        input.addFour(d);
        input.addFour(e);
        return input.length;
    }

    public int truncate(int length) throws IllegalArgumentException {
        if (length < 0 || length > input.length) {
            throw new IllegalArgumentException("no such length");
        }
        input.length = length;
        return length;
    }

    public int load() throws IllegalArgumentException {
        boolean isSystem = reader.readSystem(input);
        input.length = 0;
        if (!isSystem) {
            throw new IllegalArgumentException("the text is not a system");
        }
        history.forgetChanges();
        history.forgetSaved();
        replaceState(reader.draft);
        return state.functions;
    }

    public int errorCode() {
        return reader.code;
    }

    public int errorPosition() {
        return reader.position;
    }

    // ---- variables, functions, nodes

    public int count(int what) throws IllegalArgumentException {
        switch (what) {
            case 0:
                return state.variables;
            case 1:
                return state.functions;
            case 2:
                return drawing().size();
            case 3:
                return drawing().usedLevels();
            case 4:
                return differentFunctions();
            case 5:
                return constantFunctions();
            case 6:
                return history.changes;
            default:
                throw new IllegalArgumentException("no such count");
        }
    }

    public int variable(int variable, int what) throws IndexOutOfBoundsException, IllegalArgumentException {
        needVariable(variable);
        switch (what) {
            case 0:
                return state.levelOf(variable);
            case 1:
                return state.costs[variable];
            case 2:
                return state.percents[variable];
            case 3:
                return drawing().nodesAt(state.levelOf(variable));
            case 4:
                return functionsThatDependOn(variable);
            case 5:
                return lettersOf(state.variableNames[variable]);
            default:
                throw new IllegalArgumentException("no such number of a variable");
        }
    }

    public int variableAt(int level) throws IndexOutOfBoundsException {
        needLevel(level);
        return state.order[level];
    }

    public int function(int f, int what) throws IndexOutOfBoundsException, IllegalArgumentException {
        needFunction(f);
        switch (what) {
            case 0:
                return drawing().roots[f];
            case 1:
                return drawing().nodesReachedByAll(1 << f);
            case 2:
                return state.modelsOf(f);
            case 3:
                return Integer.bitCount(supportOf(f));
            case 4:
                return lettersOf(state.functionNames[f]);
            default:
                throw new IllegalArgumentException("no such number of a function");
        }
    }

    public int find() throws NoSuchElementException {
        int f = state.functionNamed(input.asName());
        if (f == NONE) {
            throw new NoSuchElementException("no function has this name");
        }
        return f;
    }

    public int node(int node, int what) throws IndexOutOfBoundsException, IllegalArgumentException {
        if (node < 0 || node >= drawing().nodes) {
            throw new IndexOutOfBoundsException("no such node");
        }
        switch (what) {
            case 0:
                return diagram.testedBy(node);
            case 1:
                return diagram.low[node];
            case 2:
                return diagram.high[node];
            case 3:
                return diagram.parentsOf(node);
            case 4:
                return Integer.bitCount(diagram.reachedBy[node]);
            case 5:
                return diagram.rootsAt(node);
            default:
                throw new IllegalArgumentException("no such number of a node");
        }
    }

    // ---- values, models, paths

    public int value(int f, int assignment) throws IndexOutOfBoundsException, IllegalArgumentException {
        needFunction(f);
        if (assignment < 0 || assignment >= state.assignments()) {
            throw new IllegalArgumentException("no such assignment");
        }
        return state.tables.valueAt(f, assignment);
    }

    public int model(int f, int index) throws IndexOutOfBoundsException, NoSuchElementException {
        needFunction(f);
        int model = state.modelAt(f, index);
        if (model == NONE) {
            throw new NoSuchElementException("no such model");
        }
        return model;
    }

    public int support(int f) throws IndexOutOfBoundsException {
        needFunction(f);
        return supportOf(f);
    }

    public int polarity(int f, int variable) throws IndexOutOfBoundsException {
        needFunction(f);
        needVariable(variable);
        int rises = state.stepsOf(f, variable, 0) > 0 ? 1 : 0;
        int falls = state.stepsOf(f, variable, 1) > 0 ? 2 : 0;
        return rises + falls;
    }

    public int influence(int f, int variable) throws IndexOutOfBoundsException {
        needFunction(f);
        needVariable(variable);
        return 2 * (state.stepsOf(f, variable, 0) + state.stepsOf(f, variable, 1));
    }

    public int paths(int f, int leaf) throws IndexOutOfBoundsException, IllegalArgumentException {
        needFunction(f);
        needLeaf(leaf);
        return drawing().pathsOf(f, leaf);
    }

    public int shortest(int f, int leaf) throws IndexOutOfBoundsException, IllegalArgumentException {
        needFunction(f);
        needLeaf(leaf);
        return drawing().fewestNodesOf(f, leaf);
    }

    public int longest(int f) throws IndexOutOfBoundsException {
        needFunction(f);
        return drawing().mostNodesOf(f);
    }

    public int cheapest(int f) throws IndexOutOfBoundsException {
        needFunction(f);
        int model = state.leastCostModel(f);
        return model == NONE ? NONE : state.costOf(model);
    }

    public int cheapestModel(int f) throws IndexOutOfBoundsException, NoSuchElementException {
        needFunction(f);
        int model = state.leastCostModel(f);
        if (model == NONE) {
            throw new NoSuchElementException("the function has no model");
        }
        return model;
    }

    public double chance(int f) throws IndexOutOfBoundsException {
        needFunction(f);
        return drawing().chanceOf(f, state.percents);
    }

    // ---- two functions

    public boolean same(int f, int g) throws IndexOutOfBoundsException {
        needFunction(f);
        needFunction(g);
        return state.tables.equalRows(f, g);
    }

    public boolean implies(int f, int g) throws IndexOutOfBoundsException {
        needFunction(f);
        needFunction(g);
        state.tables.apply(WITHOUT, State.SPARE_ROW, f, g);
        return state.modelAt(State.SPARE_ROW, 0) == NONE;
    }

    public int difference(int f, int g) throws IndexOutOfBoundsException {
        needFunction(f);
        needFunction(g);
        state.tables.apply(UNEQUAL, State.SPARE_ROW, f, g);
        return state.modelAt(State.SPARE_ROW, 0);
    }

    public int twin(int f) throws IndexOutOfBoundsException {
        needFunction(f);
        for (int other = 0; other < state.functions; other++) {
            if (other != f && state.tables.equalRows(f, other)) {
                return other;
            }
        }
        return NONE;
    }

    public int common(int f, int g) throws IndexOutOfBoundsException {
        needFunction(f);
        needFunction(g);
        return drawing().nodesReachedByAll(1 << f | 1 << g);
    }

    public int pairs(int f, int g) throws IndexOutOfBoundsException {
        needFunction(f);
        needFunction(g);
        return drawing().pairsOf(f, g);
    }

    public int sizeOf(int operator, int f, int g) throws IndexOutOfBoundsException, IllegalArgumentException {
        needFunction(f);
        needFunction(g);
        needOperator(operator);
        state.tables.apply(operator, State.SPARE_ROW, f, g);
        sifter.trial.takeOrder(state);
        return sifter.trial.draw(state.tables, State.SPARE_ROW, 1);
    }

    // ---- orders

    public int sizeIf(int variable, int level) throws IndexOutOfBoundsException {
        needVariable(variable);
        needLevel(level);
        return sifter.sizeWith(state, variable, level);
    }

    public int bestLevel(int variable) throws IndexOutOfBoundsException {
        needVariable(variable);
        return sifter.levelFor(state, variable);
    }

    public int width(int level) throws IndexOutOfBoundsException {
        needLevel(level);
        return drawing().nodesAt(level);
    }

    // ---- changes

    public int combine(int operator, int f, int g)
            throws IndexOutOfBoundsException, IllegalArgumentException, IllegalStateException {
        needFunction(f);
        needFunction(g);
        needOperator(operator);
        needRoom();
        beginChange();
        state.tables.apply(operator, state.functions, f, g);
        return state.addFunction(0L);
    }

    public int choose(int f, int g, int h) throws IndexOutOfBoundsException, IllegalStateException {
        needFunction(f);
        needFunction(g);
        needFunction(h);
        needRoom();
        beginChange();
        state.tables.select(state.functions, f, g, h);
        return state.addFunction(0L);
    }

    public int negate(int f) throws IndexOutOfBoundsException, IllegalStateException {
        needFunction(f);
        needRoom();
        beginChange();
        state.tables.invert(state.functions, f);
        return state.addFunction(0L);
    }

    public int restrict(int f, int variable, boolean value) throws IndexOutOfBoundsException, IllegalStateException {
        needFunction(f);
        needVariable(variable);
        needRoom();
        beginChange();
        state.tables.fix(state.functions, f, variable, value);
        return state.addFunction(0L);
    }

    public int quantify(int f, int variable, boolean all) throws IndexOutOfBoundsException, IllegalStateException {
        needFunction(f);
        needVariable(variable);
        needRoom();
        beginChange();
        state.tables.fix(State.SPARE_ROW, f, variable, false);
        state.tables.fix(State.SPARE_ROW + 1, f, variable, true);
        state.tables.apply(all ? AND : OR, state.functions, State.SPARE_ROW, State.SPARE_ROW + 1);
        return state.addFunction(0L);
    }

    public int compose(int f, int variable, int g) throws IndexOutOfBoundsException, IllegalStateException {
        needFunction(f);
        needVariable(variable);
        needFunction(g);
        needRoom();
        beginChange();
        state.tables.fix(State.SPARE_ROW, f, variable, false);
        state.tables.fix(State.SPARE_ROW + 1, f, variable, true);
        state.tables.select(state.functions, g, State.SPARE_ROW + 1, State.SPARE_ROW);
        return state.addFunction(0L);
    }

    public int drop(int f) throws IndexOutOfBoundsException {
        needFunction(f);
        int before = drawing().size();
        beginChange();
        state.removeFunction(f);
        return before - drawing().size();
    }

    public int swap(int level) throws IndexOutOfBoundsException {
        needLevel(level);
        if (level == state.variables - 1) {
            throw new IndexOutOfBoundsException("no level below this one");
        }
        beginChange();
        moveWithin(state.order, level, level + 1);
        return drawing().size();
    }

    public int move(int variable, int level) throws IndexOutOfBoundsException {
        needVariable(variable);
        needLevel(level);
        beginChange();
        moveWithin(state.order, state.levelOf(variable), level);
        return drawing().size();
    }

    public int sift(int variable) throws IndexOutOfBoundsException {
        needVariable(variable);
        beginChange();
        moveWithin(state.order, state.levelOf(variable), sifter.levelFor(state, variable));
        return drawing().size();
    }

    public int siftAll() {
        beginChange();
        sifter.siftEach(state);
        return drawing().size();
    }

    public int setCost(int variable, int cost) throws IndexOutOfBoundsException, IllegalArgumentException {
        needVariable(variable);
        if (cost < 0 || cost > MAX_COST) {
            throw new IllegalArgumentException("no such cost");
        }
        beginChange();
        int previous = state.costs[variable];
        state.costs[variable] = cost;
        return previous;
    }

    public int setPercent(int variable, int percent) throws IndexOutOfBoundsException, IllegalArgumentException {
        needVariable(variable);
        if (percent < 0 || percent > MAX_PERCENT) {
            throw new IllegalArgumentException("no such percentage");
        }
        beginChange();
        int previous = state.percents[variable];
        state.percents[variable] = percent;
        return previous;
    }

    public int script() throws IllegalArgumentException {
        int statements = reader.readScript(input, state);
        input.length = 0;
        if (statements == NONE) {
            throw new IllegalArgumentException("the text is not a script");
        }
        beginChange();
        state.become(reader.draft);
        return statements;
    }

    // ---- undo, saved states, written text

    public int undo() throws IllegalStateException {
        if (history.changes == 0) {
            throw new IllegalStateException("nothing can be undone");
        }
        replaceState(history.takeLatest());
        return history.changes;
    }

    public int save(int slot) throws IndexOutOfBoundsException {
        needSlot(slot);
        history.saved[slot].become(state);
        history.isSaved[slot] = true;
        return drawing().size();
    }

    public int restore(int slot) throws IndexOutOfBoundsException, IllegalStateException {
        needSlot(slot);
        if (!history.isSaved[slot]) {
            throw new IllegalStateException("nothing is saved there");
        }
        history.forgetChanges();
        replaceState(history.saved[slot]);
        return drawing().size();
    }

    public int writeFunction(int f) throws IndexOutOfBoundsException {
        needFunction(f);
        written.length = 0;
        written.addNumber(drawing().roots[f]);
        for (int node = LEAVES; node < diagram.nodes; node++) {
            if ((diagram.reachedBy[node] & 1 << f) != 0) {
                addNode(node);
            }
        }
        return written.length;
    }

    public int writeOrder() {
        written.length = 0;
        for (int level = 0; level < state.variables; level++) {
            if (level > 0) {
                written.addByte(',');
            }
            written.addName(state.variableNames[state.order[level]]);
        }
        return written.length;
    }

    public int textByte(int index) throws IndexOutOfBoundsException {
        if (index < 0 || index >= written.length) {
            throw new IndexOutOfBoundsException("no such byte");
        }
        return written.bytes[index];
    }

    // ---- what the calls have in common

    private void needFunction(int f) {
        if (f < 0 || f >= state.functions) {
            throw new IndexOutOfBoundsException("no such function");
        }
    }

    private void needVariable(int variable) {
        if (variable < 0 || variable >= state.variables) {
            throw new IndexOutOfBoundsException("no such variable");
        }
    }

    private void needLevel(int level) {
        if (level < 0 || level >= state.variables) {
            throw new IndexOutOfBoundsException("no such level");
        }
    }

    private void needSlot(int slot) {
        if (slot < 0 || slot >= SLOTS_TO_SAVE) {
            throw new IndexOutOfBoundsException("no such slot");
        }
    }

    private void needLeaf(int leaf) {
        if (leaf < 0 || leaf >= LEAVES) {
            throw new IllegalArgumentException("no such leaf");
        }
    }

    private void needOperator(int operator) {
        if (operator < 0 || operator >= OPERATORS) {
            throw new IllegalArgumentException("no such operator");
        }
    }

    private void needRoom() {
        if (state.functions >= MAX_FUNCTIONS) {
            throw new IllegalStateException("there are 12 functions");
        }
    }

    private void beginChange() {
        history.remember(state);
        drawn = false;
    }

    private void replaceState(State other) {
        state.become(other);
        drawn = false;
    }

    private Diagram drawing() {
        if (!drawn) {
            diagram.takeOrder(state);
            diagram.draw(state.tables, 0, state.functions);
            diagram.markReached();
            drawn = true;
        }
        return diagram;
    }

    private int differentFunctions() {
        int different = 0;
        for (int f = 0; f < state.functions; f++) {
            if (!equalsAnEarlierFunction(f)) {
                different++;
            }
        }
        return different;
    }

    private boolean equalsAnEarlierFunction(int f) {
        for (int earlier = 0; earlier < f; earlier++) {
            if (state.tables.equalRows(earlier, f)) {
                return true;
            }
        }
        return false;
    }

    private int constantFunctions() {
        int constant = 0;
        for (int f = 0; f < state.functions; f++) {
            if (supportOf(f) == 0) {
                constant++;
            }
        }
        return constant;
    }

    private int functionsThatDependOn(int variable) {
        int depending = 0;
        for (int f = 0; f < state.functions; f++) {
            if (state.tables.dependsOn(f, variable)) {
                depending++;
            }
        }
        return depending;
    }

    private int supportOf(int f) {
        int support = 0;
        for (int variable = 0; variable < state.variables; variable++) {
            if (state.tables.dependsOn(f, variable)) {
                support += 1 << variable;
            }
        }
        return support;
    }

    private void addNode(int node) {
        written.addByte(';');
        written.addNumber(node);
        written.addByte(':');
        written.addName(state.variableNames[diagram.testedBy(node)]);
        written.addByte(' ');
        written.addNumber(diagram.low[node]);
        written.addByte(',');
        written.addNumber(diagram.high[node]);
    }

    private static int lettersOf(long name) {
        int letters = 0;
        for (long rest = name; rest != 0 && letters < MAX_LETTERS; rest >>>= 8) {
            letters++;
        }
        return letters;
    }

    /** Moves the variable at one level of an order to another level. */
    private static void moveWithin(int[] order, int from, int to) {
        int variable = order[from];
        for (int level = from; level < to; level++) {
            order[level] = order[level + 1];
        }
        for (int level = from; level > to; level--) {
            order[level] = order[level - 1];
        }
        order[to] = variable;
    }

    /**
     * Truth tables, one a row. Bit a of a row is the value for assignment a. With fewer than 6 variables the values
     * are repeated up to the end of the word, so that each operation treats all bits of all words alike.
     */
    private static final class Tables {
        private static final int WORDS_OF_ROW = 4;
        private static final int VARIABLES_OF_WORD = 6;
        /** The bits of a word whose assignments give variable 0, 1, .. the value 1. */
        private static final long[] ONES = {
            0xAAAAAAAAAAAAAAAAL, 0xCCCCCCCCCCCCCCCCL, 0xF0F0F0F0F0F0F0F0L,
            0xFF00FF00FF00FF00L, 0xFFFF0000FFFF0000L, 0xFFFFFFFF00000000L
        };

        final long[] bits;
        int words = 1;

        Tables(int rows) {
            bits = new long[rows * WORDS_OF_ROW];
        }

        void setVariables(int variables) {
            words = variables <= VARIABLES_OF_WORD ? 1 : 1 << variables - VARIABLES_OF_WORD;
        }

        void fill(int row, boolean value) {
            int to = row * WORDS_OF_ROW;
            for (int word = 0; word < words; word++) {
                bits[to + word] = value ? -1L : 0L;
            }
        }

        void fillVariable(int row, int variable) {
            int to = row * WORDS_OF_ROW;
            for (int word = 0; word < words; word++) {
                if (variable < VARIABLES_OF_WORD) {
                    bits[to + word] = ONES[variable];
                } else {
                    bits[to + word] = (word >> variable - VARIABLES_OF_WORD & 1) == 1 ? -1L : 0L;
                }
            }
        }

        void copyRow(int row, Tables source, int sourceRow) {
            int to = row * WORDS_OF_ROW;
            int from = sourceRow * WORDS_OF_ROW;
            for (int word = 0; word < words; word++) {
                bits[to + word] = source.bits[from + word];
            }
        }

        void apply(int operator, int row, int left, int right) {
            int to = row * WORDS_OF_ROW;
            for (int word = 0; word < words; word++) {
                long a = bits[left * WORDS_OF_ROW + word];
                long b = bits[right * WORDS_OF_ROW + word];
                bits[to + word] = combined(operator, a, b);
            }
        }

        private static long combined(int operator, long a, long b) {
            switch (operator) {
                case AND:
                    return a & b;
                case OR:
                    return a | b;
                case UNEQUAL:
                    return a ^ b;
                case IMPLIED:
                    return ~a | b;
                case EQUAL:
                    return ~(a ^ b);
                default:
                    return a & ~b;
            }
        }

        void invert(int row, int source) {
            for (int word = 0; word < words; word++) {
                bits[row * WORDS_OF_ROW + word] = ~bits[source * WORDS_OF_ROW + word];
            }
        }

        /** Takes the value of yes where the row condition has the value 1, and of no elsewhere. */
        void select(int row, int condition, int yes, int no) {
            for (int word = 0; word < words; word++) {
                long chosen = bits[condition * WORDS_OF_ROW + word];
                long a = bits[yes * WORDS_OF_ROW + word];
                long b = bits[no * WORDS_OF_ROW + word];
                bits[row * WORDS_OF_ROW + word] = chosen & a | ~chosen & b;
            }
        }

        /** Gives a variable one value everywhere; row and source must be different rows. */
        void fix(int row, int source, int variable, boolean value) {
            int to = row * WORDS_OF_ROW;
            int from = source * WORDS_OF_ROW;
            if (variable >= VARIABLES_OF_WORD) {
                int step = 1 << variable - VARIABLES_OF_WORD;
                for (int word = 0; word < words; word++) {
                    bits[to + word] = bits[from + (value ? word | step : word & ~step)];
                }
                return;
            }
            int step = 1 << variable;
            for (int word = 0; word < words; word++) {
                long ones = bits[from + word] & ONES[variable];
                long zeros = bits[from + word] & ~ONES[variable];
                bits[to + word] = value ? ones | ones >>> step : zeros | zeros << step;
            }
        }

        boolean dependsOn(int row, int variable) {
            int from = row * WORDS_OF_ROW;
            if (variable >= VARIABLES_OF_WORD) {
                int step = 1 << variable - VARIABLES_OF_WORD;
                for (int word = 0; word < words; word++) {
                    if (bits[from + word] != bits[from + (word ^ step)]) {
                        return true;
                    }
                }
                return false;
            }
            for (int word = 0; word < words; word++) {
                long changed = bits[from + word] ^ bits[from + word] >>> (1 << variable);
                if ((changed & ~ONES[variable]) != 0) {
                    return true;
                }
            }
            return false;
        }

        boolean equalRows(int row, int other) {
            for (int word = 0; word < words; word++) {
                if (bits[row * WORDS_OF_ROW + word] != bits[other * WORDS_OF_ROW + word]) {
                    return false;
                }
            }
            return true;
        }

        int valueAt(int row, int assignment) {
            long word = bits[row * WORDS_OF_ROW + (assignment >> VARIABLES_OF_WORD)];
            return (int) (word >>> (assignment & 63)) & 1;
        }

        /** Answers a number of 10 bits that is the same for equal rows. */
        int hashOf(int row) {
            long mixed = 0;
            for (int word = 0; word < words; word++) {
                mixed = (mixed ^ bits[row * WORDS_OF_ROW + word]) * 0x9E3779B97F4A7C15L;
                mixed ^= mixed >>> 29;
            }
            return (int) (mixed * 0x9E3779B97F4A7C15L >>> 54);
        }
    }

    /** What a change changes, an undo brings back, and a slot keeps. */
    private static final class State {
        /** The first of two rows behind those of the functions, for what is needed within one call alone. */
        static final int SPARE_ROW = MAX_FUNCTIONS;

        final Tables tables = new Tables(MAX_FUNCTIONS + 2);
        final long[] functionNames = new long[MAX_FUNCTIONS];
        final long[] variableNames = new long[MAX_VARIABLES];
        final int[] order = new int[MAX_VARIABLES];
        final int[] costs = new int[MAX_VARIABLES];
        final int[] percents = new int[MAX_VARIABLES];
        int functions;
        int variables;

        void become(State other) {
            System.arraycopy(other.tables.bits, 0, tables.bits, 0, tables.bits.length);
            tables.words = other.tables.words;
            System.arraycopy(other.functionNames, 0, functionNames, 0, MAX_FUNCTIONS);
            System.arraycopy(other.variableNames, 0, variableNames, 0, MAX_VARIABLES);
            System.arraycopy(other.order, 0, order, 0, MAX_VARIABLES);
            System.arraycopy(other.costs, 0, costs, 0, MAX_VARIABLES);
            System.arraycopy(other.percents, 0, percents, 0, MAX_VARIABLES);
            functions = other.functions;
            variables = other.variables;
        }

        void addVariable(long name) {
            variableNames[variables] = name;
            order[variables] = variables;
            costs[variables] = 0;
            percents[variables] = 50;
            variables++;
            tables.setVariables(variables);
        }

        /** Adds the function whose table stands in the row behind the last function; name 0 is none. */
        int addFunction(long name) {
            functionNames[functions] = name;
            functions++;
            return functions - 1;
        }

        void removeFunction(int f) {
            functions--;
            for (int next = f; next < functions; next++) {
                tables.copyRow(next, tables, next + 1);
                functionNames[next] = functionNames[next + 1];
            }
        }

        int functionNamed(long name) {
            for (int f = 0; f < functions; f++) {
                if (name != 0 && functionNames[f] == name) {
                    return f;
                }
            }
            return NONE;
        }

        int variableNamed(long name) {
            for (int variable = 0; variable < variables; variable++) {
                if (variableNames[variable] == name) {
                    return variable;
                }
            }
            return NONE;
        }

        int levelOf(int variable) {
            for (int level = 0; level < variables; level++) {
                if (order[level] == variable) {
                    return level;
                }
            }
            return 0;
        }

        int assignments() {
            return 1 << variables;
        }

        int modelsOf(int f) {
            int models = 0;
            for (int assignment = 0; assignment < assignments(); assignment++) {
                models += tables.valueAt(f, assignment);
            }
            return models;
        }

        int modelAt(int f, int index) {
            int passed = 0;
            for (int assignment = 0; assignment < assignments(); assignment++) {
                if (tables.valueAt(f, assignment) == 1) {
                    if (passed == index) {
                        return assignment;
                    }
                    passed++;
                }
            }
            return NONE;
        }

        /** Counts where a function leaves the value before as the variable changes from 0 to 1. */
        int stepsOf(int f, int variable, int before) {
            int steps = 0;
            for (int assignment = 0; assignment < assignments(); assignment++) {
                if ((assignment >> variable & 1) == 0
                        && tables.valueAt(f, assignment) == before
                        && tables.valueAt(f, assignment | 1 << variable) != before) {
                    steps++;
                }
            }
            return steps;
        }

        int costOf(int assignment) {
            int cost = 0;
            for (int variable = 0; variable < variables; variable++) {
                cost += (assignment >> variable & 1) * costs[variable];
            }
            return cost;
        }

        int leastCostModel(int f) {
            int best = NONE;
            int least = 0;
            for (int assignment = 0; assignment < assignments(); assignment++) {
                if (tables.valueAt(f, assignment) == 1) {
                    int cost = costOf(assignment);
                    if (best == NONE || cost < least) {
                        best = assignment;
                        least = cost;
                    }
                }
            }
            return best;
        }
    }

    /** The states that can come back. */
    private static final class History {
        private static final int MAX_CHANGES = 8;

        private final State[] past = new State[MAX_CHANGES];
        private int next;
        int changes;
        final State[] saved = new State[SLOTS_TO_SAVE];
        final boolean[] isSaved = new boolean[SLOTS_TO_SAVE];

        History() {
            for (int i = 0; i < MAX_CHANGES; i++) {
                past[i] = new State();
            }
            for (int slot = 0; slot < SLOTS_TO_SAVE; slot++) {
                saved[slot] = new State();
            }
        }

        void remember(State state) {
            past[next].become(state);
            next = (next + 1) % MAX_CHANGES;
            if (changes < MAX_CHANGES) {
                changes++;
            }
        }

        State takeLatest() {
            next = (next + MAX_CHANGES - 1) % MAX_CHANGES;
            changes--;
            return past[next];
        }

        void forgetChanges() {
            changes = 0;
        }

        void forgetSaved() {
            for (int slot = 0; slot < SLOTS_TO_SAVE; slot++) {
                isSaved[slot] = false;
            }
        }
    }

    /** The reduced diagram of some truth tables for one order, with the numbers that the document gives its nodes. */
    private static final class Diagram {
        /**
         * At level k of 8 there are at most 12 * 2^k nodes, and with m = 8 - k variables left at most
         * 2^(2^m) - 2^(2^(m-1)): 12 + 24 + 48 + 96 + 192 + 240 + 12 + 2, and both leaves.
         */
        private static final int MAX_NODES = 628;
        /** Pairs whose smallest level is k are at most 2^k, those of leaves 4: 255 + 4. */
        private static final int MAX_PAIRS = 259;
        private static final int SLOTS = 1024;

        /** The function of each node; the row behind the last node holds the function that is looked for. */
        private final Tables tables = new Tables(MAX_NODES + 1);
        private final int[] levels = new int[MAX_NODES];
        final int[] low = new int[MAX_NODES];
        final int[] high = new int[MAX_NODES];
        /** The functions from whose roots a node is reached, as a sum of 2 to the power of their numbers. */
        final int[] reachedBy = new int[MAX_NODES];
        final int[] roots = new int[MAX_FUNCTIONS];
        final int[] order = new int[MAX_VARIABLES];
        private final int[] slots = new int[SLOTS];
        private final int[] met = new int[MAX_PAIRS];
        private int functions;
        private int variables;
        private int pairs;
        int nodes;

        void takeOrder(State state) {
            System.arraycopy(state.order, 0, order, 0, MAX_VARIABLES);
            variables = state.variables;
        }

        /** Draws the diagram of some rows of tables for the order that was taken, and answers its size. */
        int draw(Tables source, int first, int rows) {
            tables.words = source.words;
            Arrays.fill(slots, 0);
            nodes = 0;
            tables.fill(0, false);
            visit(variables);
            tables.fill(1, true);
            visit(variables);
            functions = rows;
            for (int f = 0; f < rows; f++) {
                tables.copyRow(nodes, source, first + f);
                roots[f] = visit(0);
            }
            return size();
        }

        /** Answers the node of the function in the row behind the last node, which depends on no level above. */
        private int visit(int level) {
            int slot = tables.hashOf(nodes);
            for (int probe = 0; probe < SLOTS && slots[slot] != 0; probe++) {
                if (tables.equalRows(slots[slot] - 1, nodes)) {
                    return slots[slot] - 1;
                }
                slot = (slot + 1) % SLOTS;
            }
            if (nodes >= MAX_NODES) {
                return 0;
            }
            int node = nodes;
            nodes++;
            slots[slot] = nodes;
            if (level >= variables) {
                setNode(node, variables, NONE, NONE);
                return node;
            }
            int tested = level;
            while (tested < variables - 1 && !tables.dependsOn(node, order[tested])) {
                tested++;
            }
            tables.fix(nodes, node, order[tested], false);
            int lowChild = visit(tested + 1);
            tables.fix(nodes, node, order[tested], true);
            setNode(node, tested, lowChild, visit(tested + 1));
            return node;
        }

        private void setNode(int node, int level, int lowChild, int highChild) {
            levels[node] = level;
            low[node] = lowChild;
            high[node] = highChild;
        }

        void markReached() {
            for (int node = 0; node < nodes; node++) {
                reachedBy[node] = 0;
            }
            for (int f = 0; f < functions; f++) {
                mark(roots[f], 1 << f, 0);
            }
        }

        private void mark(int node, int function, int depth) {
            if (depth > MAX_VARIABLES || (reachedBy[node] & function) != 0) {
                return;
            }
            reachedBy[node] |= function;
            if (node >= LEAVES) {
                mark(low[node], function, depth + 1);
                mark(high[node], function, depth + 1);
            }
        }

        int size() {
            return nodes - LEAVES;
        }

        int nodesAt(int level) {
            int found = 0;
            for (int node = LEAVES; node < nodes; node++) {
                if (levels[node] == level) {
                    found++;
                }
            }
            return found;
        }

        int usedLevels() {
            int used = 0;
            for (int level = 0; level < variables; level++) {
                if (nodesAt(level) > 0) {
                    used++;
                }
            }
            return used;
        }

        int nodesReachedByAll(int functionsWanted) {
            int found = 0;
            for (int node = LEAVES; node < nodes; node++) {
                if ((reachedBy[node] & functionsWanted) == functionsWanted) {
                    found++;
                }
            }
            return found;
        }

        int testedBy(int node) {
            return levels[node] < variables ? order[levels[node]] : NONE;
        }

        int parentsOf(int child) {
            int parents = 0;
            for (int node = LEAVES; node < nodes; node++) {
                if (low[node] == child || high[node] == child) {
                    parents++;
                }
            }
            return parents;
        }

        int rootsAt(int node) {
            int found = 0;
            for (int f = 0; f < functions; f++) {
                if (roots[f] == node) {
                    found++;
                }
            }
            return found;
        }

        int pathsOf(int f, int leaf) {
            return countPaths(roots[f], leaf, 0);
        }

        private int countPaths(int node, int leaf, int depth) {
            if (node < LEAVES || depth > MAX_VARIABLES) {
                return node == leaf ? 1 : 0;
            }
            return countPaths(low[node], leaf, depth + 1) + countPaths(high[node], leaf, depth + 1);
        }

        int fewestNodesOf(int f, int leaf) {
            return fewestNodes(roots[f], leaf, 0);
        }

        private int fewestNodes(int node, int leaf, int depth) {
            if (node < LEAVES || depth > MAX_VARIABLES) {
                return node == leaf ? 0 : NONE;
            }
            int below = fewestNodes(low[node], leaf, depth + 1);
            int other = fewestNodes(high[node], leaf, depth + 1);
            if (below == NONE || other != NONE && other < below) {
                below = other;
            }
            return below == NONE ? NONE : below + 1;
        }

        int mostNodesOf(int f) {
            return mostNodes(roots[f], 0);
        }

        private int mostNodes(int node, int depth) {
            if (node < LEAVES || depth > MAX_VARIABLES) {
                return 0;
            }
            return 1 + Math.max(mostNodes(low[node], depth + 1), mostNodes(high[node], depth + 1));
        }

        double chanceOf(int f, int[] percents) {
            return chanceAt(roots[f], percents, 0);
        }

        private double chanceAt(int node, int[] percents, int depth) {
            if (node < LEAVES || depth > MAX_VARIABLES) {
                return node == 1 ? 1.0 : 0.0;
            }
            double p = (double) percents[order[levels[node]]] / 100.0;
            double l = chanceAt(low[node], percents, depth + 1);
            double h = chanceAt(high[node], percents, depth + 1);
            return (1.0 - p) * l + p * h;
        }

        int pairsOf(int f, int g) {
            Arrays.fill(slots, 0);
            pairs = 0;
            meet(roots[f], roots[g]);
            for (int i = 0; i < MAX_PAIRS && i < pairs; i++) {
                follow(met[i] / MAX_NODES, met[i] % MAX_NODES);
            }
            return pairs;
        }

        private void meet(int first, int second) {
            int pair = first * MAX_NODES + second;
            int slot = pair * 0x9E3779B1 >>> 22;
            for (int probe = 0; probe < SLOTS && slots[slot] != 0; probe++) {
                if (met[slots[slot] - 1] == pair) {
                    return;
                }
                slot = (slot + 1) % SLOTS;
            }
            if (pairs < MAX_PAIRS) {
                met[pairs] = pair;
                pairs++;
                slots[slot] = pairs;
            }
        }

        private void follow(int first, int second) {
            int level = Math.min(levels[first], levels[second]);
            if (level < variables) {
                boolean firstTests = levels[first] == level;
                boolean secondTests = levels[second] == level;
                meet(firstTests ? low[first] : first, secondTests ? low[second] : second);
                meet(firstTests ? high[first] : first, secondTests ? high[second] : second);
            }
        }
    }

    /** Tries other levels for the variables of a state. */
    private static final class Sifter {
        final Diagram trial = new Diagram();
        private final int[] testing = new int[MAX_VARIABLES];

        int sizeWith(State state, int variable, int level) {
            trial.takeOrder(state);
            moveWithin(trial.order, state.levelOf(variable), level);
            return trial.draw(state.tables, 0, state.functions);
        }

        int levelFor(State state, int variable) {
            int present = state.levelOf(variable);
            trial.takeOrder(state);
            int least = trial.draw(state.tables, 0, state.functions);
            int best = present;
            for (int level = 0; level < state.variables; level++) {
                trial.takeOrder(state);
                moveWithin(trial.order, present, level);
                int size = trial.draw(state.tables, 0, state.functions);
                if (size < least) {
                    least = size;
                    best = level;
                }
            }
            return best;
        }

        void siftEach(State state) {
            trial.takeOrder(state);
            trial.draw(state.tables, 0, state.functions);
            for (int variable = 0; variable < state.variables; variable++) {
                testing[variable] = trial.nodesAt(state.levelOf(variable));
            }
            for (int done = 0; done < state.variables; done++) {
                int variable = mostTested(state.variables);
                testing[variable] = NONE;
                moveWithin(state.order, state.levelOf(variable), levelFor(state, variable));
            }
        }

        private int mostTested(int variables) {
            int most = 0;
            for (int variable = 1; variable < variables; variable++) {
                if (testing[variable] > testing[most]) {
                    most = variable;
                }
            }
            return most;
        }
    }

    /** Reads texts into a draft of the state that they lead to. */
    private static final class Reader {
        private static final int MAX_STATEMENTS = 30;
        private static final int MAX_PARENTHESES = 20;

        private static final int NOT_ALLOWED = 1;
        private static final int OUT_OF_RANGE = 2;
        private static final int UNKNOWN_NAME = 3;
        private static final int KNOWN_NAME = 4;
        private static final int TOO_MANY = 5;

        private static final int LET = 0;
        private static final int COST = 1;
        private static final int PERCENT = 2;
        private static final int DROP = 3;
        private static final int SWAP = 4;
        private static final int MOVE = 5;
        private static final int SIFT = 6;
        private static final int SIFT_ALL = 7;

        /** The operators, from the one that binds least. */
        private static final String SIGNS = "=>|^&";
        private static final int[] OPERATOR_OF_SIGN = {EQUAL, IMPLIED, OR, UNEQUAL, AND};

        /** Prefixes of an operand: a variable that is meant by some, or by all with this added, or "!". */
        private static final int FOR_ALL = 8;
        private static final int NOT = 16;

        /**
         * In each of 21 nested formulas 5 operands can wait for the next one, and 2 of each "if" around it; then the
         * operand itself and two rows to quantify it.
         */
        private static final int VALUE_ROWS = 150;

        final State draft = new State();
        private final Tokens tokens = new Tokens();
        private final Sifter sifter = new Sifter();
        private final Tables values = new Tables(VALUE_ROWS);
        private final int[] prefixes = new int[MAX_BYTES];
        private int prefixCount;
        int code;
        int position = NONE;

        boolean readSystem(Input input) {
            draft.variables = 0;
            draft.functions = 0;
            begin(input);
            try {
                declareVariables();
                for (int done = 0; done < MAX_BYTES && tokens.kind != Tokens.END; done++) {
                    statement(false, done);
                }
            } catch (IllegalArgumentException error) {
                return false;
            }
            return true;
        }

        /** Answers the number of statements, or NONE if there is an error. */
        int readScript(Input input, State state) {
            draft.become(state);
            begin(input);
            int statements = 0;
            try {
                while (statements < MAX_BYTES && tokens.kind != Tokens.END) {
                    statement(true, statements);
                    statements++;
                }
            } catch (IllegalArgumentException error) {
                return NONE;
            }
            return statements;
        }

        private void begin(Input input) {
            code = 0;
            position = NONE;
            prefixCount = 0;
            tokens.begin(input);
        }

        private void failIf(boolean wrong, int error) {
            if (wrong) {
                code = error;
                position = tokens.start;
                throw new IllegalArgumentException("the text has an error");
            }
        }

        private void declareVariables() {
            failIf(!tokens.isWord("vars"), NOT_ALLOWED);
            tokens.advance();
            declareVariable();
            for (int more = 1; more < MAX_BYTES && !tokens.isSign(';'); more++) {
                declareVariable();
            }
            tokens.advance();
        }

        private void declareVariable() {
            failIf(!tokens.isName(), NOT_ALLOWED);
            failIf(draft.variableNamed(tokens.word) != NONE, KNOWN_NAME);
            failIf(draft.variables >= MAX_VARIABLES, TOO_MANY);
            draft.addVariable(tokens.word);
            tokens.advance();
        }

        private void statement(boolean isScript, int before) {
            int kind = statementKind();
            failIf(kind == NONE || kind >= DROP && !isScript, NOT_ALLOWED);
            failIf(isScript && before >= MAX_STATEMENTS, TOO_MANY);
            failIf(kind == LET && draft.functions >= MAX_FUNCTIONS, TOO_MANY);
            tokens.advance();
            int variable = takesVariable(kind) ? readVariable() : NONE;
            switch (kind) {
                case LET:
                    long name = readNewName();
                    values.words = draft.tables.words;
                    formula(0, 0, 0);
                    draft.tables.copyRow(draft.functions, values, 0);
                    draft.addFunction(name);
                    break;
                case COST:
                    draft.costs[variable] = readNumber(MAX_COST);
                    break;
                case PERCENT:
                    draft.percents[variable] = readNumber(MAX_PERCENT);
                    break;
                case DROP:
                    draft.removeFunction(readFunction());
                    break;
                case SWAP:
                    int level = readNumber(draft.variables - 2);
                    moveWithin(draft.order, level, level + 1);
                    break;
                case MOVE:
                    moveWithin(draft.order, draft.levelOf(variable), readNumber(draft.variables - 1));
                    break;
                case SIFT:
                    moveWithin(draft.order, draft.levelOf(variable), sifter.levelFor(draft, variable));
                    break;
                default:
                    sifter.siftEach(draft);
            }
            expectSign(';');
        }

        private static boolean takesVariable(int kind) {
            return kind == COST || kind == PERCENT || kind == MOVE || kind == SIFT;
        }

        private int statementKind() {
            if (tokens.isWord("let")) {
                return LET;
            } else if (tokens.isWord("cost")) {
                return COST;
            } else if (tokens.isWord("percent")) {
                return PERCENT;
            } else if (tokens.isWord("drop")) {
                return DROP;
            } else if (tokens.isWord("swap")) {
                return SWAP;
            } else if (tokens.isWord("move")) {
                return MOVE;
            } else if (tokens.isWord("sift")) {
                return SIFT;
            }
            return tokens.isWord("siftall") ? SIFT_ALL : NONE;
        }

        private long readNewName() {
            failIf(!tokens.isName(), NOT_ALLOWED);
            long name = tokens.word;
            failIf(draft.variableNamed(name) != NONE || draft.functionNamed(name) != NONE, KNOWN_NAME);
            tokens.advance();
            return name;
        }

        private void expectSign(char sign) {
            failIf(!tokens.isSign(sign), NOT_ALLOWED);
            tokens.advance();
        }

        private int readNumber(int most) {
            failIf(tokens.kind != Tokens.NUMBER, NOT_ALLOWED);
            failIf(tokens.number > most, OUT_OF_RANGE);
            int number = tokens.number;
            tokens.advance();
            return number;
        }

        private int readVariable() {
            failIf(!tokens.isName(), NOT_ALLOWED);
            int variable = draft.variableNamed(tokens.word);
            failIf(variable == NONE, UNKNOWN_NAME);
            tokens.advance();
            return variable;
        }

        private int readFunction() {
            failIf(!tokens.isName(), NOT_ALLOWED);
            int f = draft.functionNamed(tokens.word);
            failIf(f == NONE, UNKNOWN_NAME);
            tokens.advance();
            return f;
        }

        /**
         * Reads a formula whose operators outside of parentheses bind at least as much as the given one, at a depth of
         * parentheses, and puts its values in a row; the rows behind it are free.
         */
        private void formula(int operator, int depth, int row) {
            if (operator >= SIGNS.length()) {
                simple(depth, row);
                return;
            }
            formula(operator + 1, depth, row);
            int most = OPERATOR_OF_SIGN[operator] == IMPLIED ? 1 : MAX_BYTES;
            for (int done = 0; done < most && tokens.isSign(SIGNS.charAt(operator)); done++) {
                tokens.advance();
                formula(operator + 1, depth, row + 1);
                values.apply(OPERATOR_OF_SIGN[operator], row, row, row + 1);
            }
        }

        private void simple(int depth, int row) {
            failIf(row + 2 >= VALUE_ROWS, TOO_MANY);
            int firstPrefix = prefixCount;
            while (prefixCount < MAX_BYTES && isPrefix()) {
                prefixes[prefixCount] = readPrefix();
                prefixCount++;
            }
            if (tokens.isKeyword(Tokens.IF)) {
                conditional(depth, row);
            } else if (tokens.isSign('(')) {
                openParenthesis(depth);
                formula(0, depth + 1, row);
                expectSign(')');
            } else {
                single(row);
            }
            while (prefixCount > firstPrefix) {
                prefixCount--;
                applyPrefix(prefixes[prefixCount], row);
            }
        }

        private boolean isPrefix() {
            return tokens.isSign('!') || tokens.isKeyword(Tokens.ALL) || tokens.isKeyword(Tokens.SOME);
        }

        private int readPrefix() {
            boolean negates = tokens.isSign('!');
            boolean forAll = tokens.isKeyword(Tokens.ALL);
            tokens.advance();
            if (negates) {
                return NOT;
            }
            return forAll ? readVariable() + FOR_ALL : readVariable();
        }

        private void applyPrefix(int prefix, int row) {
            if (prefix == NOT) {
                values.invert(row, row);
                return;
            }
            int variable = prefix % FOR_ALL;
            values.fix(row + 1, row, variable, false);
            values.fix(row + 2, row, variable, true);
            values.apply(prefix >= FOR_ALL ? AND : OR, row, row + 1, row + 2);
        }

        private void conditional(int depth, int row) {
            tokens.advance();
            openParenthesis(depth);
            formula(0, depth + 1, row);
            expectSign(',');
            formula(0, depth + 1, row + 1);
            expectSign(',');
            formula(0, depth + 1, row + 2);
            expectSign(')');
            values.select(row, row, row + 1, row + 2);
        }

        private void openParenthesis(int depth) {
            failIf(!tokens.isSign('('), NOT_ALLOWED);
            failIf(depth >= MAX_PARENTHESES, TOO_MANY);
            tokens.advance();
        }

        private void single(int row) {
            if (tokens.isBit()) {
                values.fill(row, tokens.number == 1);
            } else {
                failIf(!tokens.isName(), NOT_ALLOWED);
                int variable = draft.variableNamed(tokens.word);
                int f = draft.functionNamed(tokens.word);
                failIf(variable == NONE && f == NONE, UNKNOWN_NAME);
                if (variable != NONE) {
                    values.fillVariable(row, variable);
                } else {
                    values.copyRow(row, draft.tables, f);
                }
            }
            tokens.advance();
        }
    }

    /** The tokens of the input, one at a time. */
    private static final class Tokens {
        static final int END = 0;
        static final int WORD = 1;
        static final int NUMBER = 2;
        static final int SIGN = 3;
        static final int INVALID = 4;

        /** The keywords, packed as all words are. */
        static final long ALL = 'a' << 16 | 'l' << 8 | 'l';
        static final long SOME = 's' << 24 | 'o' << 16 | 'm' << 8 | 'e';
        static final long IF = 'i' << 8 | 'f';

        private static final int MAX_DIGITS = 3;

        private byte[] bytes = new byte[0];
        private int length;
        private int end;
        int kind;
        int start;
        int number;
        private int sign;
        /** The letters of a word, as in Input.asName. */
        long word;

        void begin(Input input) {
            bytes = input.bytes;
            length = input.length;
            end = 0;
            advance();
        }

        void advance() {
            start = end;
            while (start < length && (bytes[start] == ' ' || bytes[start] == '\n')) {
                start++;
            }
            end = start;
            word = 0;
            while (end < length && bytes[end] >= 'a' && bytes[end] <= 'z') {
                word = word << 8 | bytes[end];
                end++;
            }
            if (end > start) {
                kind = end - start <= MAX_LETTERS ? WORD : INVALID;
                return;
            }
            number = 0;
            while (end < length && bytes[end] >= '0' && bytes[end] <= '9') {
                number = number * 10 + (bytes[end] - '0');
                end++;
            }
            if (end > start) {
                kind = end - start <= MAX_DIGITS ? NUMBER : INVALID;
            } else if (start < length) {
                kind = SIGN;
                sign = bytes[start];
                end = start + 1;
            } else {
                kind = END;
            }
        }

        boolean isSign(char wanted) {
            return kind == SIGN && sign == wanted;
        }

        /** Tells whether the token is the number that consists of the digit 0 or 1 alone. */
        boolean isBit() {
            return kind == NUMBER && end - start == 1 && number <= 1;
        }

        boolean isWord(String wanted) {
            if (kind != WORD || end - start != wanted.length()) {
                return false;
            }
            for (int i = 0; i < wanted.length(); i++) {
                if (bytes[start + i] != wanted.charAt(i)) {
                    return false;
                }
            }
            return true;
        }

        boolean isKeyword(long keyword) {
            return kind == WORD && word == keyword;
        }

        boolean isName() {
            return kind == WORD && word != ALL && word != SOME && word != IF;
        }
    }

    /** The input buffer. */
    private static final class Input {
        final byte[] bytes = new byte[MAX_BYTES];
        int length;

        void addText(String text) {
            for (int i = 0; i < text.length(); i++) {
                addByte(text.charAt(i));
            }
        }

        void addFour(int four) {
            addByte(four >> 24);
            addByte(four >> 16);
            addByte(four >> 8);
            addByte(four);
        }

        private void addByte(int b) {
            if (length < MAX_BYTES) {
                bytes[length] = (byte) b;
                length++;
            }
        }

        /** Answers the letters of the whole buffer, 8 bits each, the first one highest; 0 if it can be no name. */
        long asName() {
            if (length > MAX_LETTERS) {
                return 0;
            }
            long name = 0;
            for (int i = 0; i < length; i++) {
                if (bytes[i] < 'a' || bytes[i] > 'z') {
                    return 0;
                }
                name = name << 8 | bytes[i];
            }
            return name;
        }
    }

    /** The text that was written last. */
    private static final class Written {
        /** A diagram of one function of 8 variables has at most 77 inner nodes, each of at most 20 bytes here. */
        private static final int MAX_WRITTEN = 1600;

        final byte[] bytes = new byte[MAX_WRITTEN];
        int length;

        void addByte(int b) {
            if (length < MAX_WRITTEN) {
                bytes[length] = (byte) b;
                length++;
            }
        }

        /** Adds a number of up to three digits. */
        void addNumber(int number) {
            if (number >= 100) {
                addByte('0' + number / 100);
            }
            if (number >= 10) {
                addByte('0' + number / 10 % 10);
            }
            addByte('0' + number % 10);
        }

        void addName(long name) {
            for (int shift = 8 * (MAX_LETTERS - 1); shift >= 0; shift -= 8) {
                int letter = (int) (name >>> shift) & 255;
                if (letter != 0) {
                    addByte(letter);
                }
            }
        }
    }
}
