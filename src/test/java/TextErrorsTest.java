/** Terms 3, for the promises 4, 5, 6 and 47: the first wrong token of a text and its code. */
final class TextErrorsTest {
    private static final String ELEVEN = "vars a;let b a;let c a;let d a;let e a;let f a;let g a;let h a;let i a;"
            + "let j a;let k a;let l a;";

    public static void main(String[] args) {
        systemHeads();
        newNames();
        tokens();
        systemStatements();
        scriptStatements();
        formulas();
        ends();
        tooManyFunctions();
        tooManyStatements();
        tooManyParentheses();
        longTexts();
        Check.finish("TextErrorsTest");
    }

    private static void system(String text, int code, int position) {
        DecisionDiagrams x = new DecisionDiagrams();
        Texts.put(x, text);
        if (code == 0) {
            x.load();
        } else {
            Check.raises(text, IllegalArgumentException.class, x::load);
        }
        reported(x, text, code, position);
    }

    /** In a script for the variables a, b, c and the functions maj and odd. */
    private static void script(String text, int code, int position) {
        DecisionDiagrams x = new DecisionDiagrams();
        Texts.put(x, text);
        if (code == 0) {
            x.script();
        } else {
            Check.raises(text, IllegalArgumentException.class, x::script);
            Check.equal("functions stay", x.count(1), 2);
            Check.equal("the order stays", Texts.order(x), "a,b,c");
            Check.equal("costs stay", x.variable(0, 1), 0);
            Check.equal("percentages stay", x.variable(0, 2), 50);
            Check.equal("no change", x.count(6), 0);
            Check.equal("the buffer is empty", x.append(0, 0, 0, 0, 0), 20);
        }
        reported(x, text, code, position);
    }

    private static void formula(String formula, int code, int position) {
        script("let f " + formula, code, code == 0 ? -1 : 6 + position);
    }

    private static void right(String text) {
        script(text, 0, -1);
    }

    private static void reported(DecisionDiagrams x, String text, int code, int position) {
        Check.equal("code of " + text, x.errorCode(), code);
        Check.equal("position of " + text, x.errorPosition(), position);
    }

    private static void systemHeads() {
        system("", 1, 0);
        system(" \n ", 1, 3);
        system("vars", 1, 4);
        system("vars ", 1, 5);
        system("vars ;", 1, 5);
        system("vars a", 1, 6);
        system("vars a \n", 1, 8);
        system("vars a,b;", 1, 6);
        system("vars a 1;", 1, 7);
        system("vars a;", 0, -1);
        system("let f 1;", 1, 0);
        system("Vars a;", 1, 0);
        system("wars a;", 1, 0);
        system("vart a;", 1, 0);
        system("varsa;", 1, 0);
        system("vars a;;", 1, 7);
        system("vars a;vars b;", 1, 7);
        system("vars vars let cost percent;let drop vars&let|cost^percent;cost let 5;", 0, -1);
        system("vars if;", 1, 5);
        system("vars a all;", 1, 7);
        system("vars some;", 1, 5);
    }

    private static void newNames() {
        system("vars a a;", 4, 7);
        system("vars a b c d e f g h;", 0, -1);
        system("vars a b c d e f g h i;", 5, 21);
        system("vars a b c d e f g h a;", 4, 21);
        system("vars a b c d e f g h if;", 1, 21);
        system("vars a b c d e f g h 1;", 1, 21);
        system("vars a b c d e f g h abcdefgh;", 1, 21);
        system("vars a;let a 1;", 4, 11);
        system("vars a;let b 1;let b 0;", 4, 19);
        system("vars a;let if 1;", 1, 11);
        system("vars a;let 1 1;", 1, 11);
        script("let maj a;", 4, 4);
        script("let c a;", 4, 4);
        right("drop maj;let maj a;");
        script("let f a;let f b;", 4, 12);
    }

    private static void tokens() {
        system("vars abcdefg;", 0, -1);
        system("vars abcdefgh;", 1, 5);
        system("vars a b abcdefgh;", 1, 9);
        system("vars a;cost a 007;", 0, -1);
        system("vars a;cost a 0007;", 1, 14);
        system("vars a;cost a 1000;", 1, 14);
        system("vars a;cost a 99;", 0, -1);
        system("vars a;cost a 100;", 2, 14);
        system("vars a;cost a 999;", 2, 14);
        system("vars a;percent a 100;", 0, -1);
        system("vars a;percent a 101;", 2, 17);
        system("vars a;cost a-1;", 1, 13);
        system("vars\ta;", 1, 4);
        system("vars a\r;", 1, 6);
        system("vars a;cost a7;", 0, -1);
        system("vars a;let f!a;", 0, -1);
        system("vars a;letf a;", 1, 7);
        script("swap 0 ; \n", 0, -1);
        script("swap A;", 1, 5);
    }

    private static void systemStatements() {
        for (String word : new String[] {"drop f", "swap 0", "move a 0", "sift a", "siftall"}) {
            system("vars a b;let f a;" + word + ";", 1, 17);
        }
        system("vars a;cost b 1;", 3, 12);
        system("vars a;let f a;cost f 1;", 3, 20);
        system("vars a;percent b 1;", 3, 15);
        system("vars a;cost all 1;", 1, 12);
        system("vars a;cost 1 1;", 1, 12);
        system("vars a;cost a b;", 1, 14);
        system("vars a;cost a 1", 1, 15);
        system("vars a;cost a 1 2;", 1, 16);
        system("vars a;let f a", 1, 14);
        system("vars a;let f b", 3, 13);
    }

    private static void scriptStatements() {
        for (String word : new String[] {"let x a", "cost a 1", "percent a 1", "drop maj", "swap 0", "move a 0", "sift a",
            "siftall"}) {
            right(word + ";");
            script("x" + word.substring(1) + ";", 1, 0);
            script(word.substring(1) + ";", 1, 0);
        }
        script("", 0, -1);
        script(" \n", 0, -1);
        script(";", 1, 0);
        script("vars a;", 1, 0);
        script("all;", 1, 0);
        script("drop maj;drop maj;", 3, 14);
        script("drop a;", 3, 5);
        script("drop q;", 3, 5);
        script("drop if;", 1, 5);
        script("drop 1;", 1, 5);
        script("drop maj odd;", 1, 9);
        right("swap 1;");
        script("swap 2;", 2, 5);
        script("swap 999;", 2, 5);
        script("swap a;", 1, 5);
        right("move a 2;");
        script("move a 3;", 2, 7);
        script("move maj 0;", 3, 5);
        script("move 0 a;", 1, 5);
        script("move q 9;", 3, 5);
        script("move a b;", 1, 7);
        right("sift a;");
        script("sift odd;", 3, 5);
        script("sift;", 1, 4);
        script("sift some;", 1, 5);
        right("siftall;siftall;");
        script("siftall a;", 1, 8);
        script("cost a 5;percent a 5;swap 0;drop maj;let q a;siftall", 1, 52);
        system("vars a;", 0, -1);
        DecisionDiagrams one = Texts.system("vars a;");
        Texts.put(one, "swap 0;");
        Check.raises("no two levels", IllegalArgumentException.class, one::script);
        reported(one, "swap 0 with one variable", 2, 5);
    }

    private static void formulas() {
        formula("0;", 0, -1);
        formula("1;", 0, -1);
        formula("01;", 1, 0);
        formula("00;", 1, 0);
        formula("2;", 1, 0);
        formula("10;", 1, 0);
        formula("a b;", 1, 2);
        formula("a q;", 1, 2);
        formula("a&;", 1, 2);
        formula("&a;", 1, 0);
        formula("a&&b;", 1, 2);
        formula("a!b;", 1, 1);
        formula("!;", 1, 1);
        formula("();", 1, 1);
        formula("(a;", 1, 2);
        formula("(a,b);", 1, 2);
        formula("a);", 1, 1);
        formula("a>b;", 0, -1);
        formula("a>b>c;", 1, 3);
        formula("a>(b>c);", 0, -1);
        formula("(a>b)>c;", 0, -1);
        formula("a>b=c>a;", 0, -1);
        formula("a>b=c>a>b;", 1, 7);
        formula("q;", 3, 0);
        formula("a&q;", 3, 2);
        formula("f;", 3, 0);
        formula("a&f;", 3, 2);
        formula("maj&odd;", 0, -1);
        formula("some a maj;", 0, -1);
        formula("all a b&some b a;", 0, -1);
        formula("all q a;", 3, 4);
        formula("all maj a;", 3, 4);
        formula("some if a;", 1, 5);
        formula("some 1 a;", 1, 5);
        formula("some a;", 1, 6);
        formula("some a&b;", 1, 6);
        formula("if(a,b,c);", 0, -1);
        formula("if(a,b);", 1, 6);
        formula("if(a,b,c,a);", 1, 8);
        formula("if a,b,c;", 1, 3);
        formula("if;", 1, 2);
        formula("if(a=b,a>b,c|a)&!if(1,0,maj);", 0, -1);
        formula("a if(a,b,c);", 1, 2);
    }

    private static void ends() {
        String text = "";
        for (String token : "let f if ( a , ! b , all c maj ) = 0".split(" ")) {
            text += token;
            script(text, 1, text.length());
            text += " ";
            script(text, 1, text.length());
        }
        script("le", 1, 0);
        script("let f if(a,!b,all c m", 3, 20);
        script("let f i", 3, 6);
    }

    private static void tooManyFunctions() {
        system(ELEVEN + "let m a;", 0, -1);
        system(ELEVEN + "let m a; let n a;", 5, ELEVEN.length() + 9);
        system(ELEVEN + "let m a;cost a 5;let", 5, ELEVEN.length() + 17);
        system(ELEVEN + "let m a;let m a;", 5, ELEVEN.length() + 8);
        DecisionDiagrams x = Texts.system(ELEVEN + "let m a;");
        Texts.put(x, "let n a;");
        Check.raises("a 13th function", IllegalArgumentException.class, x::script);
        reported(x, "a 13th function", 5, 0);
        Check.equal("in place of another", Texts.script(x, "drop b;let n !a;"), 2);
        Check.equal("functions", x.count(1), 12);
        Check.equal("the new one", Texts.values(x, 11), "10");
    }

    private static void tooManyStatements() {
        String thirty = "swap 0;".repeat(30);
        right(thirty);
        right(thirty + " \n");
        script(thirty + "swap 0;", 5, 210);
        script(thirty + " let maj 1;", 5, 211);
        script(thirty + "siftall", 5, 210);
        script(thirty + "swup 0;", 1, 210);
        script(thirty + ";", 1, 210);
        script(thirty + "abcdefgh", 1, 210);
    }

    private static void tooManyParentheses() {
        String twenty = "(".repeat(20);
        String closed = ")".repeat(20);
        formula(twenty + "a" + closed + ";", 0, -1);
        formula(twenty + "(a)" + closed + ";", 5, 20);
        formula(twenty + "if(a,b,c)" + closed + ";", 5, 22);
        formula(twenty + "a" + closed + "&" + twenty + "b" + closed + ";", 0, -1);
        formula(twenty + "a(" + closed + ";", 1, 21);
        formula("if(".repeat(20) + "a" + ",b,c)".repeat(20) + ";", 0, -1);
        formula("if(".repeat(20) + "(a)" + ",b,c)".repeat(20) + ";", 5, 60);
        formula("if(a,".repeat(20) + "b" + ",c)".repeat(20) + ";", 0, -1);
        formula("if(a,".repeat(20) + "(b)" + ",c)".repeat(20) + ";", 5, 100);
        formula("if(a,b,".repeat(20) + "c" + ")".repeat(20) + ";", 0, -1);
        formula("if(a,b,".repeat(20) + "(c)" + ")".repeat(20) + ";", 5, 140);
        formula("!(".repeat(20) + "!!!a" + closed + ";", 0, -1);
        formula("(" + twenty + "a", 5, 20);
    }

    private static void longTexts() {
        DecisionDiagrams x = new DecisionDiagrams();
        Texts.script(x, "let f " + "!".repeat(592) + "a;");
        Check.equal("592 times not", Texts.values(x, 2), "01010101");
        Texts.script(x, "let g " + "!".repeat(591) + "a;");
        Check.equal("591 times not", Texts.values(x, 3), "10101010");
        Texts.script(x, "let h " + "some a ".repeat(83) + "!" + "a;");
        Check.equal("83 times some a", Texts.values(x, 4), "11111111");
        Texts.put(x, "let i " + "!".repeat(594));
        Check.raises("594 times not, of nothing", IllegalArgumentException.class, x::script);
        Texts.script(x, "let i !!!!!!!!!a;drop i;");
        String waiting = "1=1>0|0^1&";
        Texts.script(x, "let i " + ("if(0,1," + waiting).repeat(20) + waiting + "a" + ")".repeat(20) + ";");
        Check.equal("all that can wait for an operand", Texts.values(x, 5), "01010101");
    }
}
