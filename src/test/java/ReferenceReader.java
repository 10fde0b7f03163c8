import java.util.ArrayList;
import java.util.List;
import java.util.Set;
import java.util.function.IntPredicate;
import java.util.regex.Matcher;
import java.util.regex.Pattern;

/** The grammar of the texts, for the class Reference: tokens by a regular expression, formulas as predicates. */
final class ReferenceReader {
    static final class TextError extends RuntimeException {
        private static final long serialVersionUID = 1L;

        final int code;
        final int position;

        TextError(int code, int position) {
            this.code = code;
            this.position = position;
        }
    }

    private record Token(String text, int position) {
        boolean isWord() {
            return text.matches("[a-z]{1,7}");
        }

        boolean isName() {
            return isWord() && !Set.of("all", "some", "if").contains(text);
        }

        boolean isNumber() {
            return text.matches("[0-9]{1,3}");
        }
    }

    private final List<Token> tokens = new ArrayList<>();
    private final Reference.State state;
    private int at;
    private int open;

    private ReferenceReader(String text, Reference.State state) {
        Matcher matcher = Pattern.compile("[a-z]+|[0-9]+|[^ \n]", Pattern.DOTALL).matcher(text);
        while (matcher.find()) {
            tokens.add(new Token(matcher.group(), matcher.start()));
        }
        tokens.add(new Token("", text.length()));
        this.state = state;
    }

    static Reference.State system(String text) {
        ReferenceReader reader = new ReferenceReader(text, new Reference.State());
        reader.takeOnly("vars");
        do {
            reader.declare();
        } while (!reader.now(";"));
        reader.takeOnly(";");
        while (!reader.now("")) {
            reader.statement(false);
        }
        return reader.state;
    }

    static int script(String text, Reference.State state) {
        ReferenceReader reader = new ReferenceReader(text, state);
        int statements = 0;
        while (!reader.now("")) {
            boolean known = reader.token().text().matches("let|cost|percent|drop|swap|move|sift|siftall");
            reader.check(known, 1);
            reader.check(statements < 30, 5);
            reader.statement(true);
            statements++;
        }
        return statements;
    }

    private Token token() {
        return tokens.get(at);
    }

    private boolean now(String text) {
        return token().text().equals(text);
    }

    private void check(boolean right, int code) {
        if (!right) {
            throw new TextError(code, token().position());
        }
    }

    private void takeOnly(String text) {
        check(now(text), 1);
        at++;
    }

    private boolean take(String text) {
        if (now(text)) {
            at++;
            return true;
        }
        return false;
    }

    private void declare() {
        checkNewName();
        check(state.names.size() < 8, 5);
        state.order.add(state.names.size());
        state.names.add(token().text());
        state.costs.add(0);
        state.percents.add(50);
        at++;
    }

    private void checkNewName() {
        check(token().isName(), 1);
        check(!state.names.contains(token().text()) && state.named(token().text()) < 0, 4);
    }

    private void statement(boolean isScript) {
        String word = token().text();
        check(word.matches(isScript ? "let|cost|percent|drop|swap|move|sift|siftall" : "let|cost|percent"), 1);
        check(!word.equals("let") || state.functions.size() < 12, 5);
        at++;
        switch (word) {
            case "let" -> {
                checkNewName();
                String name = token().text();
                at++;
                IntPredicate formula = binary(0);
                state.add(name, formula);
            }
            case "cost" -> {
                int variable = variable();
                state.costs.set(variable, number(99));
            }
            case "percent" -> {
                int variable = variable();
                state.percents.set(variable, number(100));
            }
            case "drop" -> {
                check(token().isName(), 1);
                int f = state.named(token().text());
                check(f >= 0, 3);
                at++;
                state.functions.remove(f);
            }
            case "swap" -> {
                int level = number(state.names.size() - 2);
                state.move(state.order.get(level), level + 1);
            }
            case "move" -> {
                int variable = variable();
                state.move(variable, number(state.names.size() - 1));
            }
            case "sift" -> {
                int variable = variable();
                state.move(variable, state.bestLevel(variable));
            }
            default -> state.siftAll();
        }
        takeOnly(";");
    }

    private int number(int most) {
        check(token().isNumber(), 1);
        int number = Integer.parseInt(token().text());
        check(number <= most, 2);
        at++;
        return number;
    }

    private int variable() {
        check(token().isName(), 1);
        int variable = state.names.indexOf(token().text());
        check(variable >= 0, 3);
        at++;
        return variable;
    }

    private IntPredicate binary(int strength) {
        if (strength == 5) {
            return simple();
        }
        String sign = "=>|^&".substring(strength, strength + 1);
        IntPredicate left = binary(strength + 1);
        int times = 0;
        while (!(sign.equals(">") && times == 1) && take(sign)) {
            times++;
            IntPredicate a = left;
            IntPredicate b = binary(strength + 1);
            left = switch (sign) {
                case "=" -> x -> a.test(x) == b.test(x);
                case ">" -> x -> !a.test(x) || b.test(x);
                case "|" -> x -> a.test(x) || b.test(x);
                case "^" -> x -> a.test(x) != b.test(x);
                default -> x -> a.test(x) && b.test(x);
            };
        }
        return remembered(left);
    }

    /** Long formulas would be asked again and again otherwise. */
    private IntPredicate remembered(IntPredicate formula) {
        boolean[] values = new boolean[state.assignments()];
        for (int a = 0; a < values.length; a++) {
            values[a] = formula.test(a);
        }
        return a -> values[a];
    }

    private void openParenthesis() {
        check(now("("), 1);
        check(open < 20, 5);
        open++;
        at++;
    }

    private void closeParenthesis() {
        takeOnly(")");
        open--;
    }

    private IntPredicate simple() {
        if (take("!")) {
            IntPredicate of = simple();
            return remembered(of.negate());
        }
        if (now("all") || now("some")) {
            boolean all = now("all");
            at++;
            int bit = 1 << variable();
            IntPredicate of = simple();
            return remembered(a -> all ? of.test(a | bit) && of.test(a & ~bit) : of.test(a | bit) || of.test(a & ~bit));
        }
        if (take("if")) {
            openParenthesis();
            IntPredicate condition = binary(0);
            takeOnly(",");
            IntPredicate yes = binary(0);
            takeOnly(",");
            IntPredicate no = binary(0);
            closeParenthesis();
            return a -> condition.test(a) ? yes.test(a) : no.test(a);
        }
        if (now("(")) {
            openParenthesis();
            IntPredicate inner = binary(0);
            closeParenthesis();
            return inner;
        }
        if (take("0")) {
            return a -> false;
        }
        if (take("1")) {
            return a -> true;
        }
        check(token().isName(), 1);
        int variable = state.names.indexOf(token().text());
        int f = state.named(token().text());
        check(variable >= 0 || f >= 0, 3);
        at++;
        if (variable >= 0) {
            return a -> (a >> variable) % 2 == 1;
        }
        boolean[] values = state.functions.get(f).values();
        return a -> values[a];
    }
}
