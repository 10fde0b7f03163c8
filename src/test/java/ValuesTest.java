import java.util.NoSuchElementException;

/** Promises 13 to 23: values, models, paths, costs and chances. */
final class ValuesTest {
    private static final int[] NO_FUNCTIONS = {-1, 5, 12, Integer.MIN_VALUE, Integer.MAX_VALUE};
    private static final int[] NO_VARIABLES = {-1, 3, 8, Integer.MIN_VALUE, Integer.MAX_VALUE};

    public static void main(String[] args) {
        value();
        model();
        support();
        polarity();
        influence();
        paths();
        shortest();
        longest();
        cheapest();
        cheapestModel();
        chance();
        Check.finish("ValuesTest");
    }

    /** maj, a>b, 1, 0 and c, of the variables a, b and c. */
    private static DecisionDiagrams five() {
        return Texts.system("vars a b c;let maj a&b|b&c|a&c;let f a>b;let one 1;let none 0;let g c;");
    }

    /** Promise 13. */
    private static void value() {
        DecisionDiagrams x = five();
        Check.equal("maj", Texts.values(x, 0), "00010111");
        Check.equal("a>b", Texts.values(x, 1), "10111011");
        Check.equal("1", Texts.values(x, 2), "11111111");
        Check.equal("0", Texts.values(x, 3), "00000000");
        Check.equal("c", Texts.values(x, 4), "00001111");
        x.move(2, 0);
        Check.equal("a>b with another order", Texts.values(x, 1), "10111011");
        for (int assignment : new int[] {-1, 8, 16, 256, Integer.MIN_VALUE, Integer.MAX_VALUE}) {
            Check.raises("value(0, " + assignment + ")", IllegalArgumentException.class, () -> x.value(0, assignment));
        }
        for (int f : NO_FUNCTIONS) {
            Check.raises("value(" + f + ", 0)", IndexOutOfBoundsException.class, () -> x.value(f, 0));
            Check.raises("value(" + f + ", 8)", IndexOutOfBoundsException.class, () -> x.value(f, 8));
        }
        DecisionDiagrams one = Texts.system("vars a;let f a;");
        Check.equal("value(0, 1)", one.value(0, 1), 1);
        Check.raises("value(0, 2)", IllegalArgumentException.class, () -> one.value(0, 2));
        DecisionDiagrams eight = Texts.system("vars a b c d e f g h;let i h&!a;");
        Check.equal("value(0, 254)", eight.value(0, 254), 1);
        Check.equal("value(0, 255)", eight.value(0, 255), 0);
        Check.raises("value(0, 256)", IllegalArgumentException.class, () -> eight.value(0, 256));
    }

    /** Promise 14. */
    private static void model() {
        DecisionDiagrams x = five();
        int[][] models = {{3, 5, 6, 7}, {0, 2, 3, 4, 6, 7}, {0, 1, 2, 3, 4, 5, 6, 7}, {}, {4, 5, 6, 7}};
        for (int f = 0; f < 5; f++) {
            int number = f;
            int last = models[f].length;
            for (int index = 0; index < last; index++) {
                Check.equal("model(" + f + ", " + index + ")", x.model(f, index), models[f][index]);
            }
            for (int index : new int[] {-1, last, Integer.MIN_VALUE, Integer.MAX_VALUE}) {
                Check.raises("model(" + f + ", " + index + ")", NoSuchElementException.class,
                        () -> x.model(number, index));
            }
        }
        for (int f : NO_FUNCTIONS) {
            Check.raises("model(" + f + ", 0)", IndexOutOfBoundsException.class, () -> x.model(f, 0));
            Check.raises("model(" + f + ", -1)", IndexOutOfBoundsException.class, () -> x.model(f, -1));
        }
    }

    /** Promise 15. */
    private static void support() {
        DecisionDiagrams x = five();
        int[] due = {7, 3, 0, 0, 4};
        for (int f = 0; f < 5; f++) {
            Check.equal("support(" + f + ")", x.support(f), due[f]);
        }
        x.move(2, 0);
        Check.equal("support with another order", x.support(1), 3);
        for (int f : NO_FUNCTIONS) {
            Check.raises("support(" + f + ")", IndexOutOfBoundsException.class, () -> x.support(f));
        }
    }

    /** Promise 16. */
    private static void polarity() {
        DecisionDiagrams x = five();
        int[][] due = {{1, 1, 1}, {2, 1, 0}, {0, 0, 0}, {0, 0, 0}, {0, 0, 1}};
        for (int f = 0; f < 5; f++) {
            for (int variable = 0; variable < 3; variable++) {
                Check.equal("polarity(" + f + ", " + variable + ")", x.polarity(f, variable), due[f][variable]);
            }
        }
        Check.equal("odd", new DecisionDiagrams().polarity(1, 2), 3);
        DecisionDiagrams y = Texts.system("vars a b c;let f a&b&c;let g !a&b&c;let h if(b,c&a,c&!a);");
        Check.equal("just one rise", y.polarity(0, 0), 1);
        Check.equal("just one fall", y.polarity(1, 0), 2);
        Check.equal("one of each", y.polarity(2, 0), 3);
        for (int f : NO_FUNCTIONS) {
            Check.raises("polarity(" + f + ", 0)", IndexOutOfBoundsException.class, () -> x.polarity(f, 0));
        }
        for (int variable : NO_VARIABLES) {
            Check.raises("polarity(0, " + variable + ")", IndexOutOfBoundsException.class, () -> x.polarity(0, variable));
        }
    }

    /** Promise 17. */
    private static void influence() {
        DecisionDiagrams x = five();
        int[][] due = {{4, 4, 4}, {4, 4, 0}, {0, 0, 0}, {0, 0, 0}, {0, 0, 8}};
        for (int f = 0; f < 5; f++) {
            for (int variable = 0; variable < 3; variable++) {
                Check.equal("influence(" + f + ", " + variable + ")", x.influence(f, variable), due[f][variable]);
            }
        }
        Check.equal("odd", new DecisionDiagrams().influence(1, 1), 8);
        Check.equal("both ways", Texts.system("vars a b c;let f if(b,a,!a&c);").influence(0, 0), 6);
        for (int f : NO_FUNCTIONS) {
            Check.raises("influence(" + f + ", 0)", IndexOutOfBoundsException.class, () -> x.influence(f, 0));
        }
        for (int variable : NO_VARIABLES) {
            Check.raises("influence(0, " + variable + ")", IndexOutOfBoundsException.class,
                    () -> x.influence(0, variable));
        }
    }

    private static void wrongLeaves(DecisionDiagrams x) {
        for (int f : NO_FUNCTIONS) {
            Check.raises("paths(" + f + ", 0)", IndexOutOfBoundsException.class, () -> x.paths(f, 0));
            Check.raises("paths(" + f + ", 2)", IndexOutOfBoundsException.class, () -> x.paths(f, 2));
            Check.raises("shortest(" + f + ", 0)", IndexOutOfBoundsException.class, () -> x.shortest(f, 0));
            Check.raises("shortest(" + f + ", -1)", IndexOutOfBoundsException.class, () -> x.shortest(f, -1));
        }
        for (int leaf : new int[] {-1, 2, Integer.MIN_VALUE, Integer.MAX_VALUE}) {
            Check.raises("paths(0, " + leaf + ")", IllegalArgumentException.class, () -> x.paths(0, leaf));
            Check.raises("shortest(0, " + leaf + ")", IllegalArgumentException.class, () -> x.shortest(0, leaf));
        }
    }

    /** Promise 18. */
    private static void paths() {
        DecisionDiagrams x = five();
        int[][] due = {{3, 3}, {1, 2}, {0, 1}, {1, 0}, {1, 1}};
        for (int f = 0; f < 5; f++) {
            for (int leaf = 0; leaf < 2; leaf++) {
                Check.equal("paths(" + f + ", " + leaf + ")", x.paths(f, leaf), due[f][leaf]);
            }
        }
        DecisionDiagrams eight = Texts.system("vars a b c d e f g h;let i a^b^c^d^e^f^g^h;");
        Check.equal("all paths", eight.paths(0, 0), 128);
        Check.equal("all paths", eight.paths(0, 1), 128);
        wrongLeaves(x);
    }

    /** Promise 19. */
    private static void shortest() {
        DecisionDiagrams x = five();
        int[][] due = {{2, 2}, {2, 1}, {-1, 0}, {0, -1}, {1, 1}};
        for (int f = 0; f < 5; f++) {
            for (int leaf = 0; leaf < 2; leaf++) {
                Check.equal("shortest(" + f + ", " + leaf + ")", x.shortest(f, leaf), due[f][leaf]);
            }
        }
        DecisionDiagrams y = Texts.system("vars a b c d;let f a&b&c&d;let g if(a,b&c&d,b|c);let h if(a,b|c,b&c&d);");
        Check.equal("the only path to 1", y.shortest(0, 1), 4);
        Check.equal("the first way out", y.shortest(0, 0), 1);
        Check.equal("by the low child", y.shortest(1, 1), 2);
        Check.equal("by the high child", y.shortest(2, 1), 2);
    }

    /** Promise 20. */
    private static void longest() {
        DecisionDiagrams x = five();
        int[] due = {3, 2, 0, 0, 1};
        for (int f = 0; f < 5; f++) {
            Check.equal("longest(" + f + ")", x.longest(f), due[f]);
        }
        DecisionDiagrams y = Texts.system("vars a b c d;let f if(a,b,c&d);let g if(a,c&d,b);");
        Check.equal("by the low child", y.longest(0), 3);
        Check.equal("by the high child", y.longest(1), 3);
        for (int f : NO_FUNCTIONS) {
            Check.raises("longest(" + f + ")", IndexOutOfBoundsException.class, () -> x.longest(f));
        }
    }

    /** Promise 21. */
    private static void cheapest() {
        DecisionDiagrams x = five();
        Check.equal("no costs", x.cheapest(0), 0);
        x.setCost(0, 5);
        x.setCost(1, 3);
        x.setCost(2, 99);
        int[] due = {8, 0, 0, -1, 99};
        for (int f = 0; f < 5; f++) {
            Check.equal("cheapest(" + f + ")", x.cheapest(f), due[f]);
        }
        x.setCost(0, 99);
        x.setCost(1, 99);
        x.combine(5, 0, 1);
        Check.equal("a and c", x.cheapest(5), 198);
        for (int f : new int[] {-1, 6, 12, Integer.MIN_VALUE, Integer.MAX_VALUE}) {
            Check.raises("cheapest(" + f + ")", IndexOutOfBoundsException.class, () -> x.cheapest(f));
            Check.raises("cheapestModel(" + f + ")", IndexOutOfBoundsException.class, () -> x.cheapestModel(f));
        }
    }

    /** Promise 22. */
    private static void cheapestModel() {
        DecisionDiagrams x = five();
        int[] free = {3, 0, 0, -1, 4};
        for (int f = 0; f < 5; f++) {
            if (f != 3) {
                Check.equal("cheapestModel(" + f + ")", x.cheapestModel(f), free[f]);
            }
        }
        Check.raises("no model", NoSuchElementException.class, () -> x.cheapestModel(3));
        x.setCost(0, 5);
        x.setCost(1, 3);
        x.setCost(2, 3);
        Check.equal("b and c", x.cheapestModel(0), 6);
        x.setCost(1, 5);
        Check.equal("the smaller one of a, c and b, c", x.cheapestModel(0), 5);
        x.setCost(2, 5);
        Check.equal("the smallest one of three", x.cheapestModel(0), 3);
    }

    /** Promise 23. */
    private static void chance() {
        DecisionDiagrams x = five();
        double[] half = {0.5, 0.75, 1.0, 0.0, 0.5};
        for (int f = 0; f < 5; f++) {
            Check.exactly("chance(" + f + ")", x.chance(f), half[f]);
        }
        x.setPercent(0, 30);
        x.setPercent(1, 7);
        x.setPercent(2, 0);
        double a = 30.0 / 100.0;
        double b = 7.0 / 100.0;
        double c = (1.0 - 0.0) * 0.0 + 0.0 * 1.0;
        Check.exactly("c", x.chance(4), c);
        double alone = (1.0 - b) * 0.0 + b * 1.0;
        Check.exactly("a>b", x.chance(1), (1.0 - a) * 1.0 + a * alone);
        double low = (1.0 - b) * 0.0 + b * c;
        double high = (1.0 - b) * c + b * 1.0;
        Check.exactly("maj", x.chance(0), (1.0 - a) * low + a * high);
        x.setPercent(2, 100);
        Check.exactly("c for sure", x.chance(4), 1.0);
        x.setPercent(2, 11);
        x.move(2, 0);
        double p = 11.0 / 100.0;
        double both = (1.0 - a) * 0.0 + a * alone;
        double either = (1.0 - a) * alone + a * 1.0;
        Check.exactly("maj with another order", x.chance(0), (1.0 - p) * both + p * either);
        for (int f : NO_FUNCTIONS) {
            Check.raises("chance(" + f + ")", IndexOutOfBoundsException.class, () -> x.chance(f));
        }
    }
}
