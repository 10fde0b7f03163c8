import java.util.NoSuchElementException;

/** Promises 1 to 6, sentence by sentence: a new object, the input buffer and the reported error. */
final class InputSentences {
    private static final int BLANK = 0x20202020;
    private static final String FULL = "vars a;let b a;let c a;let d a;let e a;let f a;let g a;let h a;let i a;let j a;"
            + "let k a;let l a;let m a;";

    private InputSentences() {
    }

    static void all() {
        newObject();
        append();
        appendBytes();
        truncate();
        load();
        loadAnswers();
        errorCode();
        errorPosition();
    }

    private static void newObject() {
        Holds.promise(1);
        Holds.holds("Creates diagrams as by the text \"vars a b c;let maj a&b|b&c|a&c;let odd a^b^c;\"", () -> {
            DecisionDiagrams x = new DecisionDiagrams();
            Check.equal("order", Texts.order(x), "a,b,c");
            Check.equal("maj", Texts.function(x, Texts.find(x, "maj")), "2;2:a 3,5;3:b 0,4;4:c 0,1;5:b 4,1");
            Check.equal("odd", Texts.function(x, Texts.find(x, "odd")), "6;4:c 0,1;6:a 7,9;7:b 4,8;8:c 1,0;9:b 8,4");
            String text = "vars a b c;let maj a&b|b&c|a&c;let odd a^b^c;";
            for (Seen view : Seen.values()) {
                Check.equal(view.toString(), view.of(new DecisionDiagrams()), view.of(Texts.system(text)));
            }
        });
        Holds.holds(", with an empty buffer", () -> {
            Check.equal("truncate(0)", new DecisionDiagrams().truncate(0), 0);
            Check.equal("append", new DecisionDiagrams().append(0, 0, 0, 0, 0), 20);
            Check.equal("script of nothing", new DecisionDiagrams().script(), 0);
            DecisionDiagrams x = new DecisionDiagrams();
            Refused.refused("truncate(1)", IllegalArgumentException.class, DecisionDiagrams::new, y -> y.truncate(1));
            Check.raises("load of nothing", IllegalArgumentException.class, x::load);
            Check.equal("position", x.errorPosition(), 0);
        });
        Holds.holds("and nothing saved.", () -> {
            for (int slot = 0; slot < 2; slot++) {
                int number = slot;
                Refused.refused("restore(" + slot + ")", IllegalStateException.class, DecisionDiagrams::new,
                        x -> x.restore(number));
            }
        });
    }

    /** Puts one byte at an index of 20, blanks elsewhere. */
    private static DecisionDiagrams oneByte(int index, int value) {
        int[] four = {BLANK, BLANK, BLANK, BLANK, BLANK};
        int shift = 24 - 8 * (index % 4);
        four[index / 4] = four[index / 4] & ~(255 << shift) | value << shift;
        DecisionDiagrams x = new DecisionDiagrams();
        x.append(four[0], four[1], four[2], four[3], four[4]);
        return x;
    }

    /** The first of the bytes first to last that is no blank is reported at its index. */
    private static void bytes(int first, int last) {
        for (int index = first - 1; index < last; index++) {
            DecisionDiagrams x = oneByte(index, '?');
            Check.raises("a stray byte", IllegalArgumentException.class, x::script);
            Check.equal("position", x.errorPosition(), index);
        }
    }

    private static void append() {
        Holds.promise(2);
        Holds.holds("Appends 20 bytes to the buffer", () -> {
            DecisionDiagrams x = new DecisionDiagrams();
            x.append(0x6c657420, 0x7a20613b, BLANK, BLANK, BLANK);
            x.append(0x64726f70, 0x207a3b3f, BLANK, BLANK, BLANK);
            Check.equal("truncate to all of both", x.truncate(40), 40);
            Check.raises("a byte behind the second one's statement", IllegalArgumentException.class, x::script);
            Check.equal("position", x.errorPosition(), 27);
        });
        Holds.holds("- `a`: bytes 1 to 4", () -> bytes(1, 4));
        Holds.holds("- `b`: bytes 5 to 8", () -> bytes(5, 8));
        Holds.holds("- `c`: bytes 9 to 12", () -> bytes(9, 12));
        Holds.holds("- `d`: bytes 13 to 16", () -> bytes(13, 16));
        Holds.holds("- `e`: bytes 17 to 20", () -> bytes(17, 20));
        Holds.holds("Returns the new length of the buffer.", () -> {
            DecisionDiagrams x = new DecisionDiagrams();
            for (int length = 20; length <= 600; length += 20) {
                Check.equal("append", x.append(BLANK, 0, -1, 1, BLANK), length);
            }
            x.truncate(1);
            Check.equal("append to one byte", x.append(0, 0, 0, 0, 0), 21);
            x.truncate(0);
            Check.equal("append to none", x.append(0, 0, 0, 0, 0), 20);
        });
        Holds.holds("Throws `IllegalStateException` if the length would exceed 600", () -> {
            for (int length : new int[] {0, 1, 579, 580}) {
                Check.equal("append at " + length, ofLength(length).append(0, 0, 0, 0, 0), length + 20);
            }
            for (int length : new int[] {581, 582, 599, 600}) {
                Refused.refused("append at " + length, IllegalStateException.class, () -> ofLength(length),
                        x -> x.append(0x73776170, 0x20303b20, BLANK, BLANK, BLANK));
            }
            DecisionDiagrams x = ofLength(600);
            Check.raises("append at 600", IllegalStateException.class, () -> x.append(-1, -1, -1, -1, -1));
            Check.equal("the bytes stay", x.script(), 3);
            Check.equal("append then", x.append(0, 0, 0, 0, 0), 20);
        });
    }

    /** A buffer of some bytes: blanks, and a script where there is room for it. */
    private static DecisionDiagrams ofLength(int length) {
        DecisionDiagrams x = Worlds.busy();
        String script = length < 30 ? "" : "cost a 5;swap 0;let z f;";
        Texts.put(x, script + " ".repeat(length - script.length()));
        return x;
    }

    private static void appendBytes() {
        Holds.holds("the four bytes of each argument, the most significant byte first.", () -> {
            DecisionDiagrams x = new DecisionDiagrams();
            x.append(0x6c657420, 0x7a206126, 0x6d616a3b, 0x636f7374, 0x20612037);
            x.append(0x333b0a0a, BLANK, BLANK, BLANK, BLANK);
            Check.equal("let z a&maj;cost a 73;", x.script(), 2);
            Check.equal("z", Texts.values(x, 2), "00010101");
            Check.equal("cost", x.variable(0, 1), 73);
            for (int value = 0; value < 256; value++) {
                DecisionDiagrams y = oneByte(value % 20, value);
                boolean blank = value == 32 || value == 10;
                Check.raises("byte " + value, blank ? null : IllegalArgumentException.class, y::script);
                Check.equal("code of byte " + value, y.errorCode(), blank ? 0 : 1);
                Check.equal("position of byte " + value, y.errorPosition(), blank ? -1 : value % 20);
            }
            for (int four : new int[] {-1, Integer.MIN_VALUE, Integer.MAX_VALUE, 0}) {
                DecisionDiagrams y = new DecisionDiagrams();
                y.append(BLANK, four, BLANK, four, BLANK);
                Check.raises("" + four, IllegalArgumentException.class, y::script);
                Check.equal("position with " + four, y.errorPosition(), 4);
            }
        });
    }

    private static void truncate() {
        Holds.promise(3);
        Holds.holds("Shortens the buffer to its first bytes.", () -> {
            DecisionDiagrams x = new DecisionDiagrams();
            Texts.put(x, "majodd");
            Check.raises("majodd", NoSuchElementException.class, x::find);
            x.truncate(3);
            Check.equal("maj", x.find(), 0);
            x.append(0x6f646420, BLANK, BLANK, BLANK, BLANK);
            x.truncate(6);
            Check.raises("majodd again", NoSuchElementException.class, x::find);
            x.truncate(2);
            Check.raises("ma", NoSuchElementException.class, x::find);
            x.truncate(0);
            x.append(0x6f646420, BLANK, BLANK, BLANK, BLANK);
            x.truncate(3);
            Check.equal("odd from the start", x.find(), 1);
        });
        Holds.holds("- `length`: the new length, from 0 to the present length", () -> {
            for (int length : new int[] {0, 1, 22, 23}) {
                DecisionDiagrams x = Worlds.busy();
                Check.equal("of 23 bytes", x.truncate(length), length);
                Check.equal("the length then", x.append(0, 0, 0, 0, 0), length + 20);
            }
            Check.equal("0 of none", new DecisionDiagrams().truncate(0), 0);
            Check.equal("600 of 600", ofLength(600).truncate(600), 600);
            Check.equal("all of them stay", Seen.BUFFER.of(untruncated(600)), Seen.BUFFER.of(ofLength(600)));
        });
        Holds.holds("Returns the new length.", () -> {
            DecisionDiagrams x = ofLength(600);
            for (int length = 600; length >= 300; length -= 50) {
                Check.equal("truncate", x.truncate(length), length);
            }
        });
        Holds.holds("Throws `IllegalArgumentException` if length is out of this range", () -> {
            Refused.outside("length", 0, 23, IllegalArgumentException.class, Worlds::busy, DecisionDiagrams::truncate);
            Refused.outside("length", 0, 0, IllegalArgumentException.class, DecisionDiagrams::new,
                    DecisionDiagrams::truncate);
            Refused.outside("length", 0, 600, IllegalArgumentException.class, () -> ofLength(600),
                    DecisionDiagrams::truncate);
            DecisionDiagrams x = Worlds.busy();
            x.truncate(7);
            Check.raises("what was cut is gone", IllegalArgumentException.class, () -> x.truncate(8));
        });
    }

    private static DecisionDiagrams untruncated(int length) {
        DecisionDiagrams x = ofLength(length);
        x.truncate(length);
        return x;
    }

    private static void load() {
        Holds.promise(4);
        Holds.holds("Reads the buffer as a system and empties it", () -> {
            DecisionDiagrams x = Worlds.busy();
            Check.equal("load", Texts.load(x, "vars p q;let r p&q;cost q 99;percent p 100;"), 1);
            Check.equal("r", Texts.function(x, 0), "2;2:p 0,3;3:q 0,1");
            Check.equal("cost", x.variable(1, 1), 99);
            Check.equal("percentage", x.variable(0, 2), 100);
            Check.raises("the buffer is empty", IllegalArgumentException.class, () -> x.truncate(1));
            Check.equal("append", x.append(0, 0, 0, 0, 0), 20);
            Check.raises("a script is no system", IllegalArgumentException.class, () -> Texts.load(x, "swap 0;"));
        });
        Holds.holds(", also if the text has an error.", () -> {
            DecisionDiagrams x = Worlds.busy();
            Texts.put(x, "vars p q");
            Check.raises("no semicolon", IllegalArgumentException.class, x::load);
            Check.raises("the buffer is empty", IllegalArgumentException.class, () -> x.truncate(1));
            Check.equal("append", x.append(0, 0, 0, 0, 0), 20);
        });
        Holds.holds("Without an error the system takes the place of the state", () -> {
            DecisionDiagrams x = Worlds.busy();
            Texts.load(x, "vars d c;let f d;");
            Check.equal("order", Texts.order(x), "d,c");
            Check.equal("variables", x.count(0), 2);
            Check.equal("functions", x.count(1), 1);
            Check.equal("cost", x.variable(0, 1), 0);
            Check.equal("percentage", x.variable(0, 2), 50);
            Check.equal("as from the start", Seen.STATE.of(x), Seen.STATE.of(Texts.system("vars d c;let f d;")));
            Texts.put(x, "g");
            Check.raises("g is gone", NoSuchElementException.class, x::find);
        });
        Holds.holds("; nothing can be undone,", () -> {
            DecisionDiagrams x = Worlds.busy();
            Texts.load(x, "vars z;");
            Check.equal("changes", x.count(6), 0);
            Check.raises("undo", IllegalStateException.class, x::undo);
            x.setCost(0, 1);
            Check.equal("undo of the one change since", x.undo(), 0);
            Check.raises("undo again", IllegalStateException.class, x::undo);
        });
        Holds.holds("and nothing is saved.", () -> {
            DecisionDiagrams x = Worlds.busy();
            x.save(1);
            Texts.load(x, "vars z;");
            Check.raises("restore(0)", IllegalStateException.class, () -> x.restore(0));
            Check.raises("restore(1)", IllegalStateException.class, () -> x.restore(1));
        });
    }

    private static void loadAnswers() {
        Holds.holds("Returns the number of functions.", () -> {
            Check.equal("none", Texts.load(new DecisionDiagrams(), "vars a;"), 0);
            Check.equal("one", Texts.load(Worlds.full(), "vars a;let b a;"), 1);
            Check.equal("twelve", Texts.load(Worlds.none(), FULL), 12);
        });
        Holds.holds("Throws `IllegalArgumentException` if the text has an error", () -> {
            Refused.text(Worlds::busy, "", DecisionDiagrams::load, 1, 0);
            Refused.text(Worlds::busy, "vars z;cost z 100;", DecisionDiagrams::load, 2, 14);
            Refused.text(Worlds::busy, "vars z;let y z;cost y 1;", DecisionDiagrams::load, 3, 20);
            Refused.text(Worlds::busy, "vars z;let y z;let y z;", DecisionDiagrams::load, 4, 19);
            Refused.text(Worlds::full, FULL + "let n a;", DecisionDiagrams::load, 5, FULL.length());
            Refused.text(DecisionDiagrams::new, "vars a;let b a;let c", DecisionDiagrams::load, 1, 20);
        });
    }

    private static void reported(String text, boolean isScript, int code, int position) {
        DecisionDiagrams x = new DecisionDiagrams();
        Texts.put(x, text);
        Check.raises(text, IllegalArgumentException.class, isScript ? x::script : x::load);
        Check.equal("code of " + text, x.errorCode(), code);
        Check.equal("code of " + text + ", asked again", x.errorCode(), code);
        Check.equal("position of " + text, x.errorPosition(), position);
        Check.equal("position of " + text + ", asked again", x.errorPosition(), position);
    }

    private static void errorCode() {
        Holds.promise(5);
        Holds.holds("Returns the code of the error of the latest call of load or script.", () -> {
            DecisionDiagrams x = Worlds.busy();
            Check.equal("of script", x.errorCode(), 3);
            Texts.put(x, "vars a b c d e f g h i;");
            Check.raises("load", IllegalArgumentException.class, x::load);
            Check.equal("of load then", x.errorCode(), 5);
            Texts.put(x, "cost a 100;");
            Check.raises("script", IllegalArgumentException.class, x::script);
            Check.equal("of script then", x.errorCode(), 2);
            Check.raises("another call is refused", IndexOutOfBoundsException.class, () -> x.drop(99));
            x.undo();
            Check.equal("it stays", x.errorCode(), 2);
        });
        Holds.holds("Returns 1 to 5;", () -> {
            reported("vars;", false, 1, 4);
            reported("vars a;percent a 101;", false, 2, 17);
            reported("vars a;let b c;", false, 3, 13);
            reported("vars a a;", false, 4, 7);
            reported(FULL + "let", false, 5, FULL.length());
            reported("sift", true, 1, 4);
            reported("swap 2;", true, 2, 5);
            reported("drop a;", true, 3, 5);
            reported("let odd 1;", true, 4, 4);
            reported("swap 0;".repeat(30) + "swap 0;", true, 5, 210);
        });
        Holds.holds("0 if that text had no error, or if there was no such call.", () -> {
            Check.equal("no such call", new DecisionDiagrams().errorCode(), 0);
            DecisionDiagrams x = Worlds.busy();
            Check.equal("a script", Texts.script(x, ""), 0);
            Check.equal("behind a script", x.errorCode(), 0);
            DecisionDiagrams y = Worlds.busy();
            Check.equal("a system", Texts.load(y, "vars a;"), 0);
            Check.equal("behind a system", y.errorCode(), 0);
        });
    }

    private static void errorPosition() {
        Holds.promise(6);
        Holds.holds("Returns the position of the error of the latest call of load or script.", () -> {
            DecisionDiagrams x = Worlds.busy();
            Check.equal("of script", x.errorPosition(), 5);
            Texts.put(x, "vars a b c d e f g h i;");
            Check.raises("load", IllegalArgumentException.class, x::load);
            Check.equal("of load then", x.errorPosition(), 21);
            Texts.put(x, "cost a 100;");
            Check.raises("script", IllegalArgumentException.class, x::script);
            Check.equal("of script then", x.errorPosition(), 7);
            Check.raises("another call is refused", IndexOutOfBoundsException.class, () -> x.drop(99));
            x.undo();
            Check.equal("it stays", x.errorPosition(), 7);
        });
        Holds.holds("Returns the position;", () -> {
            reported("", false, 1, 0);
            reported("?", true, 1, 0);
            reported(" ".repeat(599) + "?", true, 1, 599);
            reported(" ".repeat(600), false, 1, 600);
        });
        Holds.holds("NONE if that text had no error, or if there was no such call.", () -> {
            Check.equal("no such call", new DecisionDiagrams().errorPosition(), DecisionDiagrams.NONE);
            DecisionDiagrams x = Worlds.busy();
            Texts.script(x, "");
            Check.equal("behind a script", x.errorPosition(), DecisionDiagrams.NONE);
            DecisionDiagrams y = Worlds.busy();
            Texts.load(y, "vars a;");
            Check.equal("behind a system", y.errorPosition(), DecisionDiagrams.NONE);
        });
    }
}
