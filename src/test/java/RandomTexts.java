import java.util.ArrayList;
import java.util.Collections;
import java.util.List;
import java.util.Random;

/** Systems and scripts from a fixed seed: some right, some with a token that is wrong. */
final class RandomTexts {
    private static final int MOST_BYTES = 600;
    private static final List<String> VARIABLES =
            List.of("a", "b", "c", "d", "e", "vars", "let", "percent", "cost", "x", "y", "variabl", "siftall");
    private static final List<String> FUNCTIONS =
            List.of("f", "g", "h", "maj", "odd", "drop", "functio", "w", "q", "z", "aa", "bb", "cc", "dd", "ee");
    private static final List<String> STRAY = List.of("all", "some", "if", "(", ")", "!", "=", ">", "|", "^", "&", ",",
            ";", "0", "1", "01", "00", "7", "99", "100", "101", "999", "1000", "abcdefgh", "A", "\t", "\r", "~", "\u00e9",
            "\u0000", "a", "b", "f", "g", "nobody", "let", "vars", "swap", "sift", "siftall", "move", "drop", "cost",
            "percent", "");

    private final Random random;
    private final List<String> variables = new ArrayList<>(List.of("a", "b", "c"));
    private final List<String> functions = new ArrayList<>(List.of("maj", "odd"));
    private final List<String> tokens = new ArrayList<>();

    RandomTexts(Random random) {
        this.random = random;
    }

    String system() {
        tokens.clear();
        List<String> names = new ArrayList<>(VARIABLES);
        Collections.shuffle(names, random);
        variables.clear();
        int most = random.nextInt(20) == 0 ? 10 : random.nextInt(3) == 0 ? 3 : 8;
        variables.addAll(names.subList(0, 1 + random.nextInt(most)));
        functions.clear();
        tokens.add("vars");
        tokens.addAll(variables);
        tokens.add(";");
        int statements = random.nextInt(random.nextInt(8) == 0 ? 15 : 6);
        for (int i = 0; i < statements; i++) {
            define();
        }
        return text();
    }

    /** A script for an object with these names; null is no name. */
    String script(List<String> variableNames, List<String> functionNames) {
        tokens.clear();
        variables.clear();
        variables.addAll(variableNames);
        functions.clear();
        functionNames.stream().filter(name -> name != null).forEach(functions::add);
        int statements = random.nextInt(12) == 0 ? 28 + random.nextInt(5) : random.nextInt(6);
        for (int i = 0; i < statements; i++) {
            if (random.nextInt(3) == 0 && statements < 20) {
                define();
            } else {
                change(statements >= 20);
            }
        }
        return text();
    }

    String name() {
        return random.nextInt(4) == 0 ? one(STRAY) : one(functions);
    }

    private String one(List<String> strings) {
        return strings.isEmpty() ? "nobody" : strings.get(random.nextInt(strings.size()));
    }

    private void define() {
        int kind = random.nextInt(6);
        if (kind < 4) {
            String name = newName();
            add("let", name);
            formula(random.nextInt(10) == 0 ? 6 : random.nextInt(5));
            functions.add(name);
        } else if (kind == 4) {
            add("cost", one(variables), Integer.toString(random.nextInt(random.nextInt(10) == 0 ? 130 : 100)));
        } else {
            add("percent", one(variables), Integer.toString(random.nextInt(random.nextInt(10) == 0 ? 130 : 101)));
        }
        add(";");
    }

    private String newName() {
        if (random.nextInt(40) == 0) {
            return one(random.nextBoolean() ? variables : FUNCTIONS);
        }
        List<String> free = new ArrayList<>(FUNCTIONS);
        free.removeAll(functions);
        free.removeAll(variables);
        return one(free);
    }

    private void change(boolean cheap) {
        switch (random.nextInt(cheap ? 3 : 6)) {
            case 0 -> add("cost", one(variables), Integer.toString(random.nextInt(5)));
            case 1 -> add("swap", Integer.toString(random.nextInt(variables.size() * 5) / 6));
            case 2 -> add("move", one(variables), Integer.toString(random.nextInt(variables.size())));
            case 3 -> add("sift", one(variables));
            case 4 -> add("siftall");
            default -> {
                if (!functions.isEmpty()) {
                    String name = one(functions);
                    add("drop", name);
                    functions.remove(name);
                } else {
                    add("siftall");
                }
            }
        }
        add(";");
    }

    private void formula(int depth) {
        if (depth == 0) {
            operand();
            return;
        }
        switch (random.nextInt(9)) {
            case 0 -> {
                add("!");
                formula(depth - 1);
            }
            case 1 -> {
                add(random.nextBoolean() ? "all" : "some", one(variables));
                inParentheses(depth - 1);
            }
            case 2 -> {
                add("if", "(");
                formula(depth - 1);
                add(",");
                formula(depth - 1);
                add(",");
                formula(depth - 1);
                add(")");
            }
            case 3 -> {
                inParentheses(depth - 1);
                add(one(List.of("=", ">", "|", "^", "&")));
                inParentheses(depth - 1);
            }
            default -> {
                formula(depth - 1);
                add(one(List.of("=", ">", "|", "^", "&", "|", "^", "&")));
                formula(depth - 1);
            }
        }
    }

    private void inParentheses(int depth) {
        add("(");
        formula(depth);
        add(")");
    }

    private void operand() {
        int kind = random.nextInt(24);
        if (kind < 18) {
            add(one(variables));
        } else if (kind < 22) {
            add(functions.isEmpty() ? one(variables) : one(functions));
        } else {
            add(kind == 22 ? "0" : "1");
        }
    }

    private void add(String... more) {
        Collections.addAll(tokens, more);
    }

    /** Joins the tokens, one time in three with one of them spoilt. */
    private String text() {
        if (!tokens.isEmpty() && random.nextInt(3) == 0) {
            int at = random.nextInt(tokens.size());
            switch (random.nextInt(3)) {
                case 0 -> tokens.set(at, one(STRAY));
                case 1 -> tokens.remove(at);
                default -> tokens.add(at, one(STRAY));
            }
        }
        StringBuilder text = new StringBuilder();
        for (String token : tokens) {
            boolean needsSpace = text.length() > 0 && !token.isEmpty()
                    && Character.isLetterOrDigit(text.charAt(text.length() - 1))
                    && Character.isLetterOrDigit(token.charAt(0));
            if (needsSpace || random.nextInt(25) == 0) {
                text.append(random.nextInt(5) == 0 ? " \n" : " ");
            }
            text.append(token);
        }
        if (random.nextInt(20) == 0) {
            text.setLength(random.nextInt(text.length() + 1));
        }
        if (random.nextInt(8) == 0) {
            text.append(" \n ");
        }
        text.setLength(Math.min(text.length(), MOST_BYTES));
        return text.toString();
    }
}
