import java.util.function.Consumer;

/** Terms 3, sentence by sentence: tokens, the grammar, formulas and errors. */
final class TextSentences {
    private static final String TWELVE = "vars a;let b a;let c a;let d a;let e a;let f a;let g a;let h a;let i a;let j a;"
            + "let k a;let l a;let m a;";

    private TextSentences() {
    }

    static void all() {
        Holds.section("Terms 3");
        buffer();
        tokens();
        invalidTokens();
        keywords();
        systems();
        defines();
        scripts();
        binaryFormulas();
        simpleFormulas();
        names();
        operators();
        formulaWords();
        statements();
        positions();
        lowestCode();
        codes1to3();
        codes4and5();
        errorsChangeNothing();
    }

    /** A right script for the variables a, b, c and the functions maj and odd. */
    private static DecisionDiagrams right(String script) {
        DecisionDiagrams x = new DecisionDiagrams();
        Texts.put(x, script);
        Check.raises(script, null, x::script);
        Check.equal("the error of " + script, Seen.REPORTED.of(x), "0 at -1");
        return x;
    }

    private static void wrong(String script, int code, int position) {
        Refused.text(DecisionDiagrams::new, script, DecisionDiagrams::script, code, position);
    }

    private static DecisionDiagrams rightSystem(String system) {
        DecisionDiagrams x = new DecisionDiagrams();
        Texts.put(x, system);
        Check.raises(system, null, x::load);
        Check.equal("the error of " + system, Seen.REPORTED.of(x), "0 at -1");
        return x;
    }

    private static void wrongSystem(String system, int code, int position) {
        Refused.text(Worlds::busy, system, DecisionDiagrams::load, code, position);
    }

    /** A formula of a, b, c, maj and odd that stands at byte 6. */
    private static void formula(String formula, String values) {
        Check.equal(formula, Texts.values(right("let f " + formula + ";"), 2), values);
    }

    private static void wrongFormula(String formula, int code, int position) {
        wrong("let f " + formula + ";", code, 6 + position);
    }

    private static void buffer() {
        Holds.holds("There is an input buffer of at most 600 bytes, empty at first.", () -> {
            Check.equal("at first", Seen.LENGTH.of(new DecisionDiagrams()), "20");
            DecisionDiagrams x = new DecisionDiagrams();
            String longest = "let f " + "!".repeat(592) + "a;";
            Texts.put(x, longest);
            Check.equal("600 bytes", longest.length(), 600);
            Check.raises("601 bytes", IllegalStateException.class, () -> x.append(0, 0, 0, 0, 0));
            Check.equal("all of them are read", x.script(), 1);
            Check.equal("f is a", Texts.values(x, 2), "01010101");
            wrong(longest.substring(0, 599) + "?", 1, 599);
            wrong("let f " + "!".repeat(594), 1, 600);
        });
    }

    private static void tokens() {
        Holds.holds("A text is a sequence of tokens; bytes 32 and 10 may stand before, between and after tokens", () -> {
            for (String blank : new String[] {" ", "\n", "  ", " \n ", "\n\n"}) {
                String spaced = String.join(blank, "", "let", "f", "if", "(", "all", "a", "maj", ",", "!", "b", ",", "1", ")",
                        "=", "(", "c", ">", "0", ")", "^", "odd", ";", "cost", "a", "12", ";", "siftall", ";", "");
                Check.equal("statements", Texts.script(new DecisionDiagrams(), spaced), 3);
                Check.equal("an empty text", Texts.script(new DecisionDiagrams(), blank), 0);
            }
            right("let f if(all a maj,!b,1)=(c>0)^odd;cost a12;siftall;");
            right("cost a7;let f!a;drop f;");
        });
        Holds.holds("and have no other meaning.", () -> {
            DecisionDiagrams x = right("let f a&b|c;cost a 7;");
            DecisionDiagrams y = right("\n let\nf  a &\nb\n| c ; cost  a\n\n7 ;\n");
            Check.equal("the same state", Seen.STATE.of(x), Seen.STATE.of(y));
            wrong("sw ap 0;", 1, 0);
            wrong("swap 0 0;", 1, 7);
            wrong("cost a 1 2;", 1, 9);
            wrong("cost a 1\n2;", 1, 9);
            for (char other : new char[] {0, 9, 11, 12, 13, 31, 33, 127, 138, 160, 255}) {
                wrong("swap" + other + "0;", 1, 4);
                wrong(other + "swap 0;", 1, 0);
                wrong("swap 0;" + other, 1, 7);
            }
        });
        Holds.holds("A maximal run of lower-case letters is a word, a maximal run of digits is a number, and each other byte "
                + "is a token of its own.", () -> {
            wrong("swapa 0;", 1, 0);
            wrong("swap0 0;", 1, 6);
            wrong("zwap 0;", 1, 0);
            wrong("swaz 0;", 1, 0);
            wrong("swa 0;", 1, 0);
            wrong("cost a 1a;", 1, 8);
            wrong("cost az 1;", 3, 5);
            wrong("cost a1 1;", 1, 8);
            right("percent c009;");
            for (char other : new char[] {'`', '{', 'A', 'Z', '/', ':', '_', '-', '.', 225}) {
                wrong("cost " + other + "a 1;", 1, 5);
                wrong("cost a" + other + " 1;", 1, 6);
                wrong("cost a 1" + other + ";", 1, 8);
            }
            wrong("let f a&&b;", 1, 8);
            wrong("let f a>=b;", 1, 8);
            wrong("cost a 1;;", 1, 9);
        });
    }

    private static void invalidTokens() {
        Holds.holds("A word of more than 7 letters and a number of more than 3 digits are invalid tokens.", () -> {
            rightSystem("vars abcdefg;let gfedcba abcdefg;cost abcdefg 007;percent abcdefg 099;");
            right("siftall;let percent a;");
            wrongSystem("vars abcdefgh;", 1, 5);
            wrongSystem("vars " + "a".repeat(595), 1, 5);
            wrongSystem("vars abcdefg;let abcdefgh 1;", 1, 17);
            wrongSystem("vars a;cost a 0007;", 1, 14);
            wrongSystem("vars a;cost a 0000;", 1, 14);
            wrongSystem("vars a;let f 0001;", 1, 13);
            wrong("siftalll;", 1, 0);
            wrong("percentt a 1;", 1, 0);
            wrong("cost a 1000;", 1, 7);
            wrong("swap 0000;", 1, 5);
            wrong("let f abcdefgh;", 1, 6);
            wrong("let f all abcdefgh a;", 1, 10);
            wrong("drop abcdefgh;", 1, 5);
        });
        Holds.holds("a number of more than 3 digits are invalid tokens.", () -> {
            // numbers that are 0, 1 or 7 again where 32 or 64 bits wrap around
            for (String wrapped : new String[] {"4294967296", "4294967297", "4294967303", "18446744073709551616",
                "18446744073709551623", "1" + "0".repeat(64)}) {
                wrong("cost a " + wrapped + ";", 1, 7);
                wrong("swap " + wrapped + ";", 1, 5);
                wrongFormula(wrapped, 1, 0);
            }
            wrong("cost a " + "9".repeat(593), 1, 7);
        });
        Holds.holds("A word of more than 7 letters", () -> {
            // words whose last letters are another word, where 64 bits would lose the first ones
            wrong("abcdefghswap 0;", 1, 0);
            wrongFormula("abcdefghmaj", 1, 0);
            wrongFormula("abcdefgha", 1, 0);
            wrongFormula("xxxxxxif(a,b,c)", 1, 0);
            wrongFormula("xxxxxall a b", 1, 0);
        });
    }

    private static void keywords() {
        Holds.holds("The words all, some and if are keywords;", () -> {
            for (String keyword : new String[] {"all", "some", "if"}) {
                wrongSystem("vars " + keyword + ";", 1, 5);
                wrongSystem("vars a " + keyword + ";", 1, 7);
                wrongSystem("vars a;let " + keyword + " 1;", 1, 11);
                wrong("let " + keyword + " 1;", 1, 4);
                wrong("cost " + keyword + " 1;", 1, 5);
                wrong("percent " + keyword + " 1;", 1, 8);
                wrong("drop " + keyword + ";", 1, 5);
                wrong("move " + keyword + " 1;", 1, 5);
                wrong("sift " + keyword + ";", 1, 5);
                wrong(keyword + ";", 1, 0);
                wrongFormula("all " + keyword + " a", 1, 4);
                wrongFormula("some " + keyword + " a", 1, 5);
            }
        });
        Holds.holds("a NAME is any other word.", () -> {
            String words = "al alll som somee i iff vars let";
            DecisionDiagrams x = rightSystem("vars " + words + ";let cost al;let percent alll;let drop som;let swap somee;"
                    + "let move i;let sift iff;let siftall vars;let fi let;");
            Check.equal("order", Texts.order(x), words.replace(' ', ','));
            Check.equal("siftall", x.support(Texts.find(x, "siftall")), 64);
            Check.equal("statements", Texts.script(x, "drop drop;cost let 5;let drop cost&siftall;siftall;drop siftall;"
                    + "move vars 0;let siftall some vars all let (vars=let);"), 7);
            Check.equal("cost of let", x.variable(7, 1), 5);
        });
    }

    private static void systems() {
        Holds.holds("system   = \"vars\" NAME { NAME } \";\" { define \";\" }", () -> {
            rightSystem("vars a;");
            rightSystem("vars a b c d e f g h;");
            rightSystem("vars a;let f 1;");
            rightSystem("vars a;cost a 1;cost a 2;" + "cost a 3;".repeat(60));
            wrongSystem("", 1, 0);
            wrongSystem("let f 1;", 1, 0);
            wrongSystem("var a;", 1, 0);
            wrongSystem("varss a;", 1, 0);
            wrongSystem("Vars a;", 1, 0);
            wrongSystem("vars", 1, 4);
            wrongSystem("vars;", 1, 4);
            wrongSystem("vars 1;", 1, 5);
            wrongSystem("vars a", 1, 6);
            wrongSystem("vars a,b;", 1, 6);
            wrongSystem("vars a 1;", 1, 7);
            wrongSystem("vars a;;", 1, 7);
            wrongSystem("vars a;vars b;", 1, 7);
            wrongSystem("vars a;let f 1", 1, 14);
            wrongSystem("vars a;let f 1 let g 0;", 1, 15);
            for (String change : new String[] {"drop f", "swap 0", "move a 0", "sift a", "siftall"}) {
                wrongSystem("vars a b;let f a;" + change + ";", 1, 17);
            }
        });
    }

    private static void defines() {
        Holds.holds("define   = \"let\" NAME formula | \"cost\" VARIABLE N | \"percent\" VARIABLE N", () -> {
            right("let f a;cost a 1;percent a 1;");
            wrong("let;", 1, 3);
            wrong("let 1 a;", 1, 4);
            wrong("let f;", 1, 5);
            wrong("let f a b;", 1, 8);
            wrong("let f g a;", 3, 6);
            wrong("cost;", 1, 4);
            wrong("cost 1;", 1, 5);
            wrong("cost a;", 1, 6);
            wrong("cost a b;", 1, 7);
            wrong("cost a 1 b;", 1, 9);
            wrong("percent;", 1, 7);
            wrong("percent 1;", 1, 8);
            wrong("percent a;", 1, 9);
            wrong("percent a b;", 1, 10);
            wrong("percent a 1 b;", 1, 12);
            wrong("cost a -1;", 1, 7);
        });
    }

    private static void scripts() {
        Holds.holds("script   = { ( define | \"drop\" FUNCTION | \"swap\" N | \"move\" VARIABLE N | \"sift\" VARIABLE | "
                + "\"siftall\" ) \";\" }", () -> {
            right("");
            right("siftall;");
            right("drop maj;swap 0;move a 0;sift a;siftall;let f 1;cost a 1;percent a 1;");
            for (String text : new String[] {"drop", "swap", "move", "sift", "move a"}) {
                wrong(text + ";", 1, text.length());
                wrong(text, 1, text.length());
                wrong(text + " &;", 1, text.length() + 1);
            }
            wrong("siftall", 1, 7);
            wrong("drop 1;", 1, 5);
            wrong("drop maj odd;", 1, 9);
            wrong("swap a;", 1, 5);
            wrong("swap 0 1;", 1, 7);
            wrong("move 0 a;", 1, 5);
            wrong("move a b;", 1, 7);
            wrong("sift 0;", 1, 5);
            wrong("sift a 0;", 1, 7);
            wrong("siftall a;", 1, 8);
            wrong(";", 1, 0);
            wrong("a;", 1, 0);
            wrong("1;", 1, 0);
            wrong("vars a;", 1, 0);
        });
    }

    private static void binaryFormulas() {
        Holds.holds("formula  = implied { \"=\" implied }", () -> {
            formula("a=b", "10011001");
            formula("a=b=c", "01101001");
            formula("a=b=c=a=b=c", "11111111");
            formula("a>b=c", "01001011");
            formula("a=b>c", "01100101");
            wrongFormula("=a", 1, 0);
            wrongFormula("a=", 1, 2);
            wrongFormula("a==b", 1, 2);
        });
        Holds.holds("implied  = either [ \">\" either ]", () -> {
            formula("a>b", "10111011");
            formula("a|b>c", "10001111");
            formula("a>b|c", "10111111");
            formula("(a>b)>c", "01001111");
            formula("a>(b>c)", "11101111");
            wrongFormula("a>b>c", 1, 3);
            wrongFormula(">a", 1, 0);
            wrongFormula("a>", 1, 2);
            wrongFormula("a>b=c>a>b", 1, 7);
        });
        Holds.holds("either   = unequal { \"|\" unequal }", () -> {
            formula("a|b", "01110111");
            formula("a|b|c", "01111111");
            formula("a^b|c", "01101111");
            formula("a|b^c", "01111101");
            wrongFormula("|a", 1, 0);
            wrongFormula("a|", 1, 2);
            wrongFormula("a||b", 1, 2);
        });
        Holds.holds("unequal  = both { \"^\" both }", () -> {
            formula("a^b", "01100110");
            formula("a^b^c", "01101001");
            formula("a&b^c", "00011110");
            formula("a^b&c", "01010110");
            wrongFormula("^a", 1, 0);
            wrongFormula("a^", 1, 2);
            wrongFormula("a^^b", 1, 2);
        });
        Holds.holds("both     = simple { \"&\" simple }", () -> {
            formula("a&b", "00010001");
            formula("a&b&c", "00000001");
            formula("!a&b", "00100010");
            formula("a&!b", "01000100");
            formula("some a b&a", "00010001");
            wrongFormula("&a", 1, 0);
            wrongFormula("a&", 1, 2);
            wrongFormula("a&&b", 1, 2);
        });
    }

    private static void simpleFormulas() {
        Holds.holds("simple   = \"!\" simple | ( \"all\" | \"some\" ) VARIABLE simple | \"(\" formula \")\"", () -> {
            formula("!a", "10101010");
            formula("!!a", "01010101");
            formula("!all a maj", "11111100");
            formula("all a!maj", "11000000");
            formula("some a all b(a^b)", "00000000");
            formula("all a some b(a^b)", "11111111");
            formula("(a)", "01010101");
            formula("((a>b)=c)", "01001011");
            wrongFormula("!", 1, 1);
            wrongFormula("a!b", 1, 1);
            wrongFormula("all a", 1, 5);
            wrongFormula("all 1 a", 1, 4);
            wrongFormula("all (a) b", 1, 4);
            wrongFormula("some a&b", 1, 6);
            wrongFormula("()", 1, 1);
            wrongFormula("(a", 1, 2);
            wrongFormula("a)", 1, 1);
            wrongFormula("(a,b)", 1, 2);
        });
        Holds.holds("| \"if\" \"(\" formula \",\" formula \",\" formula \")\" | \"0\" | \"1\" | VARIABLE | FUNCTION", () -> {
            formula("if(a,b,c)", "00011011");
            formula("if(a=b,a>b,if(c,0,1))", "11111001");
            formula("if(a,b=c,0)", "01000001");
            formula("if(a,0,b=c)", "10000010");
            formula("if(b=c,a,0)", "01000001");
            formula("0", "00000000");
            formula("1", "11111111");
            formula("c", "00001111");
            formula("odd", "01101001");
            wrongFormula("if", 1, 2);
            wrongFormula("if a,b,c", 1, 3);
            wrongFormula("if()", 1, 3);
            wrongFormula("if(a)", 1, 4);
            wrongFormula("if(a,b)", 1, 6);
            wrongFormula("if(a,b,)", 1, 7);
            wrongFormula("if(a,b,c", 1, 8);
            wrongFormula("if(a,b,c,a)", 1, 8);
            wrongFormula("if(a;b;c)", 1, 4);
            wrongFormula("ab", 3, 0);
            wrongFormula("a b", 1, 2);
            wrongFormula("a 1", 1, 2);
        });
    }

    private static void names() {
        Holds.holds("VARIABLE is the NAME of a variable, FUNCTION the NAME of a function, N a number.", () -> {
            right("cost a 7;percent b 7;move c 0;sift a;let f all a some b maj;drop f;");
            wrong("cost maj 7;", 3, 5);
            wrong("percent odd 7;", 3, 8);
            wrong("move maj 0;", 3, 5);
            wrong("sift odd;", 3, 5);
            wrong("drop a;", 3, 5);
            wrongFormula("all maj a", 3, 4);
            wrongFormula("some odd a", 3, 5);
            wrong("cost a a;", 1, 7);
        });
        Holds.holds("\"0\" and \"1\" are the numbers that consist of this digit alone.", () -> {
            formula("0|1", "11111111");
            for (String other : new String[] {"00", "01", "10", "11", "000", "001", "2", "9", "100"}) {
                wrongFormula(other, 1, 0);
                wrongFormula("a&" + other, 1, 2);
            }
            Check.equal("as N, 01 is 1", right("cost a 01;").variable(0, 1), 1);
            Check.equal("as N, 000 is 0", right("percent a 000;").variable(0, 2), 0);
        });
        Holds.holds("The variables of \"vars\" are numbered in their order, which is the order of the diagram, too.", () -> {
            DecisionDiagrams x = rightSystem("vars h g f e d c b a;let z a;let y h;");
            Check.equal("order", Texts.order(x), "h,g,f,e,d,c,b,a");
            Check.equal("a is the last", x.support(0), 128);
            Check.equal("h is the first", x.support(1), 1);
            for (int level = 0; level < 8; level++) {
                Check.equal("level " + level, x.variableAt(level), level);
            }
        });
    }

    private static void operators() {
        Holds.holds("\"=\" has the value 1 where both operands have the same value,", () -> formula("a=b", "10011001"));
        Holds.holds("\">\" where the first has the value 0 or the second has the value 1,", () -> formula("a>b", "10111011"));
        Holds.holds("\"|\" where at least one has the value 1,", () -> formula("a|b", "01110111"));
        Holds.holds("\"^\" where just one has the value 1,", () -> formula("a^b", "01100110"));
        Holds.holds("\"&\" where both have the value 1,", () -> formula("a&b", "00010001"));
        Holds.holds("\"!\" where its operand has the value 0.", () -> formula("!maj", "11101000"));
        Holds.holds("Several operands of the same operator are combined from left to right.", () -> {
            formula("a=b=0", "01100110");
            formula("a=0=b=0=c", "01101001");
            formula("a^b^c^1", "10010110");
            formula("a&b&c&1", "00000001");
            formula("0|a|b|c", "01111111");
            formula("a" + "=a".repeat(295), "11111111");
            formula("a" + "^a".repeat(296), "01010101");
        });
    }

    private static void formulaWords() {
        Holds.holds("\"if\" has the value of the second formula where the first one has the value 1, and of the third one "
                + "elsewhere.", () -> {
            formula("if(0,a,b)", "00110011");
            formula("if(1,a,b)", "01010101");
            formula("if(c,a,b)", "00110101");
            formula("if(a,a,a)", "01010101");
        });
        Holds.holds("\"all V F\" has the value 1 where F has the value 1 with both values of V,", () -> {
            formula("all a maj", "00000011");
            formula("all a a", "00000000");
            formula("all a b", "00110011");
            formula("all a 1", "11111111");
            formula("all c(a|c)", "01010101");
            Check.equal("all h", rightSystem("vars a b c d e f g h;let x all h(g|h);").support(0), 64);
        });
        Holds.holds("\"some V F\" where F has the value 1 with at least one value of V.", () -> {
            formula("some a maj", "00111111");
            formula("some a a", "11111111");
            formula("some a b", "00110011");
            formula("some a 0", "00000000");
            formula("some c(a&c)", "01010101");
            Check.equal("some h", rightSystem("vars a b c d e f g h;let x some h(g&h);").support(0), 64);
        });
    }

    private static void statements() {
        Holds.holds("\"let\" adds a function, which must not have the NAME of a variable or of another function.", () -> {
            DecisionDiagrams x = right("let f a;let g f;");
            Check.equal("functions", x.count(1), 4);
            Check.equal("g is the last", Texts.find(x, "g"), 3);
            wrong("let a 1;", 4, 4);
            wrong("let c 1;", 4, 4);
            wrong("let maj 1;", 4, 4);
            wrong("let odd 1;", 4, 4);
            wrong("let f 1;let f 1;", 4, 12);
            wrongFormula("f", 3, 0);
            wrongFormula("a&f", 3, 2);
            right("drop maj;let maj odd;");
            wrong("drop maj;let maj maj;", 3, 17);
        });
        Holds.holds("Statements are carried out as they are read;", () -> {
            DecisionDiagrams x = right("let f a;drop maj;let maj f&b;drop f;let f maj|c;move c 0;swap 1;cost a 5;cost a 6;");
            Check.equal("odd", Texts.find(x, "odd"), 0);
            Check.equal("maj", Texts.values(x, Texts.find(x, "maj")), "00010001");
            Check.equal("f", Texts.values(x, Texts.find(x, "f")), "00011111");
            Check.equal("order", Texts.order(x), "c,b,a");
            Check.equal("the later cost", x.variable(0, 1), 6);
        });
        Holds.holds("\"drop\", \"swap\", \"move\", \"sift\" and \"siftall\" do what the methods drop, swap, move, sift and "
                + "siftAll do, \"cost\" and \"percent\" what setCost and setPercent do.", () -> {
            asByMethod("drop g;", x -> x.drop(0));
            asByMethod("drop h;", x -> x.drop(1));
            asByMethod("swap 0;", x -> x.swap(0));
            asByMethod("swap 4;", x -> x.swap(4));
            asByMethod("move a 5;", x -> x.move(0, 5));
            asByMethod("move f 1;", x -> x.move(5, 1));
            asByMethod("sift a;", x -> x.sift(0));
            asByMethod("sift e;", x -> x.sift(2));
            asByMethod("siftall;", DecisionDiagrams::siftAll);
            asByMethod("cost f 99;", x -> x.setCost(5, 99));
            asByMethod("percent a 100;", x -> x.setPercent(0, 100));
            DecisionDiagrams x = Texts.system("vars a c e b d f;let g a&b|c&d|e&f;");
            Texts.script(x, "sift b;");
            Check.equal("sift", Texts.order(x), "b,a,c,e,d,f");
            Texts.script(x, "siftall;");
            Check.equal("siftall", x.count(2), 6);
        });
    }

    /** The same by a script and by a method, where a change of the order shows. */
    private static void asByMethod(String script, Consumer<DecisionDiagrams> method) {
        String system = "vars a c e b d f;let g a&b|c&d|e&f;let h e^b;";
        DecisionDiagrams x = Texts.system(system);
        method.accept(x);
        DecisionDiagrams y = Texts.system(system);
        Texts.script(y, script);
        Check.equal(script, Seen.HISTORY.of(y), Seen.HISTORY.of(x));
    }

    private static void positions() {
        Holds.holds("An error is reported for the first token, from the left, at which there is one, with the index of its "
                + "first byte,", () -> {
            wrong("cost q 100;", 3, 5);
            wrong("cost a 100 q;", 2, 7);
            wrong("let maj q&&;", 4, 4);
            wrong("  \n  siftall; \n drop  qqq;", 3, 22);
            wrong("let f a&b&abcdefgh", 1, 10);
            wrong("swap 2;abcdefgh", 2, 5);
            wrongSystem("vars a b c d e f g h i a;", 5, 21);
            wrongSystem("vars a a if 1234;", 4, 7);
        });
        Holds.holds("or with the length of the text if the text ends too early.", () -> {
            wrongSystem("", 1, 0);
            wrongSystem(" ", 1, 1);
            wrongSystem(" ".repeat(600), 1, 600);
            String text = "";
            for (String token : "let f if ( a , ! b , all c maj ) = ( 0 > b | c ^ a & 1 )".split(" ")) {
                text += token;
                wrong(text, 1, text.length());
                wrong(text + " \n", 1, text.length() + 2);
                text += " ";
            }
            wrong("cost a 1", 1, 8);
            wrong("cost a 1;siftall", 1, 16);
            right("cost a 1;siftall;");
        });
    }

    private static void lowestCode() {
        Holds.holds("If several errors apply to one token, the lowest code is reported.", () -> {
            // 1 ahead of 2, 3, 4 and 5
            wrong("cost a 1000;", 1, 7);
            wrongFormula("2", 1, 0);
            wrong("cost if 1;", 1, 5);
            wrong("let all 1;", 1, 4);
            wrongSystem("vars a b c d e f g h if;", 1, 21);
            wrongSystem("vars a b c d e f g h abcdefgh;", 1, 21);
            wrongSystem("vars a b c d e f g h 9;", 1, 21);
            wrong("swap 0;".repeat(30) + ";", 1, 210);
            wrong("swap 0;".repeat(30) + "a;", 1, 210);
            wrong("swap 0;".repeat(30) + "abcdefgh;", 1, 210);
            wrong("swap 0;".repeat(30) + "vars a;", 1, 210);
            wrongFormula("(".repeat(20) + "a(", 1, 21);
            wrongFormula("(".repeat(20) + "!all(", 1, 24);
            // 4 ahead of 5
            wrongSystem("vars a b c d e f g h a;", 4, 21);
            wrongSystem("vars a b c d e f g h h;", 4, 21);
            // the word "let" stands ahead of its NAME
            wrongSystem(TWELVE + "let m a;", 5, TWELVE.length());
            // 5 twice
            Refused.text(Worlds::full, "swap 0;".repeat(30) + "let z a;", DecisionDiagrams::script, 5, 210);
        });
    }

    private static void codes1to3() {
        Holds.holds("1: an invalid token, a token that the grammar does not allow there", () -> {
            wrong("abcdefgh", 1, 0);
            wrong("swap 1234;", 1, 5);
            wrong("swap;", 1, 4);
            wrong("?", 1, 0);
        });
        Holds.holds("(a keyword in the place of a NAME, too),", () -> {
            wrongSystem("vars some;", 1, 5);
            wrong("drop if;", 1, 5);
            wrong("sift all;", 1, 5);
        });
        Holds.holds("or the end of the text where it is not allowed.", () -> {
            wrongSystem("vars a", 1, 6);
            wrong("siftall", 1, 7);
            wrong("let f", 1, 5);
        });
        Holds.holds("2: a number out of its range.", () -> {
            right("cost a 99;percent a 100;swap 1;move a 2;");
            right("cost a 0;percent a 0;swap 0;move a 0;");
            right("cost a 099;cost a 000;");
            wrong("cost a 100;", 2, 7);
            wrong("cost a 999;", 2, 7);
            wrong("percent a 101;", 2, 10);
            wrong("percent a 999;", 2, 10);
            wrong("swap 2;", 2, 5);
            wrong("swap 3;", 2, 5);
            wrong("move a 3;", 2, 7);
            wrong("move a 008;", 2, 7);
            Refused.text(Worlds::one, "swap 0;", DecisionDiagrams::script, 2, 5);
            Refused.text(Worlds::one, "swap 999;", DecisionDiagrams::script, 2, 5);
            Refused.text(Worlds::one, "move a 1;", DecisionDiagrams::script, 2, 7);
            Refused.text(Worlds::eight, "swap 7;", DecisionDiagrams::script, 2, 5);
            Refused.text(Worlds::eight, "move a 8;", DecisionDiagrams::script, 2, 7);
            Check.equal("the last levels", Texts.script(Worlds.eight(), "swap 6;move h 7;move a 7;"), 3);
            Check.equal("the only level", Texts.script(Worlds.one(), "move a 0;"), 1);
            wrongSystem("vars a;cost a 100;", 2, 14);
            wrongSystem("vars a;percent a 101;", 2, 17);
        });
        Holds.holds("3: a NAME that is not that of a variable where VARIABLE must stand, not that of a function where "
                + "FUNCTION must stand, or neither where both can stand.", () -> {
            wrong("cost q 1;", 3, 5);
            wrong("percent q 1;", 3, 8);
            wrong("move q 0;", 3, 5);
            wrong("sift q;", 3, 5);
            wrong("drop q;", 3, 5);
            wrong("drop maj;drop maj;", 3, 14);
            wrongFormula("q", 3, 0);
            wrongFormula("aa", 3, 0);
            wrongFormula("ma", 3, 0);
            wrongFormula("majo", 3, 0);
            wrongFormula("all q a", 3, 4);
            wrongFormula("vars", 3, 0);
            Refused.text(Worlds::none, "drop a;", DecisionDiagrams::script, 3, 5);
            Refused.text(Worlds::busy, "let z maj;", DecisionDiagrams::script, 3, 6);
        });
    }

    private static void codes4and5() {
        Holds.holds("4: a new NAME that a variable or a function has.", () -> {
            wrongSystem("vars a a;", 4, 7);
            wrongSystem("vars a b c d e f g a;", 4, 19);
            wrongSystem("vars abcdefg abcdef abcdefg;", 4, 20);
            wrongSystem("vars a;let a 1;", 4, 11);
            wrongSystem("vars a;let b 1;let b 0;", 4, 19);
            wrong("let b 1;", 4, 4);
            rightSystem("vars maj odd;let f maj;");
        });
        Holds.holds("5: the NAME of a 9th variable;", () -> {
            rightSystem("vars a b c d e f g h;");
            wrongSystem("vars a b c d e f g h i;", 5, 21);
            wrongSystem("vars a b c d e f g h vars;", 5, 21);
        });
        Holds.holds("the word \"let\" if there are 12 functions;", () -> {
            rightSystem(TWELVE);
            wrongSystem(TWELVE + "let n a;", 5, TWELVE.length());
            wrongSystem(TWELVE + "let", 5, TWELVE.length());
            wrongSystem(TWELVE + "cost a 1; let;", 5, TWELVE.length() + 10);
            Refused.text(Worlds::full, "let z a;", DecisionDiagrams::script, 5, 0);
            Refused.text(Worlds::eleven, "let z a;let y a;", DecisionDiagrams::script, 5, 8);
            Check.equal("in place of another", Texts.script(Worlds.full(), "drop n;let z a;"), 2);
            Check.equal("a 12th", Texts.script(Worlds.eleven(), "let z a;"), 1);
        });
        Holds.holds("a \"(\" inside of 20 others that are not closed there (that of \"if\", too);", () -> {
            String open = "(".repeat(20);
            String closed = ")".repeat(20);
            formula(open + "a" + closed, "01010101");
            formula(open + "a" + closed + "&" + open + "b" + closed, "00010001");
            formula("(".repeat(19) + "(a)&(b)" + ")".repeat(19), "00010001");
            wrongFormula(open + "(a)" + closed, 5, 20);
            wrongFormula(open + "if(a,b,c)" + closed, 5, 22);
            wrongFormula(open + "!(", 5, 21);
            wrongFormula(open + "a|b&(", 5, 24);
            // where b and c differ, each second one has the value of a again
            formula("if(".repeat(20) + "a" + ",b,c)".repeat(20), "00010111");
            wrongFormula("if(".repeat(20) + "if(", 5, 62);
            formula("if(0,a,".repeat(20) + "b" + ")".repeat(20), "00110011");
            wrongFormula("if(0,a,".repeat(20) + "(", 5, 140);
            formula("if(1,".repeat(20) + "c" + ",b)".repeat(20), "00001111");
            wrongFormula("if(1,".repeat(20) + "(", 5, 100);
            formula("if((a),(b),(c))", "00011011");
        });
        Holds.holds("the first word of a 31st statement of a script.", () -> {
            String thirty = "swap 0;".repeat(30);
            Check.equal("30", Texts.script(new DecisionDiagrams(), thirty), 30);
            Check.equal("30 and blanks", Texts.script(new DecisionDiagrams(), thirty + " \n"), 30);
            for (String word : new String[] {"let", "cost", "percent", "drop", "swap", "move", "sift", "siftall"}) {
                wrong(thirty + word, 5, 210);
                wrong(thirty + "\n" + word + " 1;", 5, 211);
            }
            rightSystem("vars a;" + "cost a 1;".repeat(31));
        });
    }

    private static void errorsChangeNothing() {
        Holds.holds("A text with an error changes nothing but the buffer and the reported error.", () -> {
            String changes = "let z a;drop f;swap 1;move a 2;sift b;siftall;cost a 1;percent a 1;";
            for (String last : new String[] {"?", "cost a 100;", "cost z 1;", "let z a;"}) {
                int code = "?".equals(last) ? 1 : last.endsWith("100;") ? 2 : last.endsWith("z 1;") ? 3 : 4;
                int within = code == 1 ? 0 : code == 2 ? 7 : code == 3 ? 5 : 4;
                Refused.text(Worlds::busy, changes + last, DecisionDiagrams::script, code, changes.length() + within);
                Refused.text(Worlds::busy, "vars a b;let z a;" + last, DecisionDiagrams::load, code, 17 + within);
            }
            String many = "cost a 1;".repeat(30);
            Refused.text(Worlds::busy, many + "cost a 2;", DecisionDiagrams::script, 5, many.length());
            DecisionDiagrams x = new DecisionDiagrams();
            for (int times = 0; times < 3; times++) {
                Texts.put(x, "let z " + "!".repeat(594));
                Check.raises("no operand", IllegalArgumentException.class, x::script);
            }
            Texts.script(x, "let z " + "!".repeat(591) + "a;");
            Check.equal("a right text then", Texts.values(x, 2), "10101010");
            Refused.text(Worlds::busy, TWELVE + "let n a;", DecisionDiagrams::load, 5, TWELVE.length());
        });
    }
}
