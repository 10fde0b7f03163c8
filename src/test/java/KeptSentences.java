/** Promises 48 to 53, sentence by sentence: undo, saved states and written texts. */
final class KeptSentences {
    private static final String SLOT = "- `slot`: 0 or 1";
    private static final String NO_SLOT = "Throws `IndexOutOfBoundsException` if there is no such slot";
    private static final String LENGTH = "Returns the number of bytes of the text.";
    private static final String EIGHT = "vars a b c d e f g h;";

    private KeptSentences() {
    }

    static void all() {
        undo();
        save();
        restore();
        writeFunction();
        writeFunctionForm();
        writeOrder();
        textByte();
    }

    /** An object with some changes of the cost of a, to 1, 2 and so on. */
    private static DecisionDiagrams changed(int times) {
        DecisionDiagrams x = new DecisionDiagrams();
        for (int cost = 1; cost <= times; cost++) {
            x.setCost(0, cost);
        }
        return x;
    }

    private static void undo() {
        Holds.promise(48);
        Holds.holds("Undoes the latest change that has not been undone.", () -> {
            DecisionDiagrams x = changed(3);
            x.undo();
            Check.equal("the third is undone", x.variable(0, 1), 2);
            x.undo();
            Check.equal("the second is undone", x.variable(0, 1), 1);
            x.setCost(0, 50);
            x.undo();
            Check.equal("the new one is undone", x.variable(0, 1), 1);
            x.undo();
            Check.equal("the first is undone", x.variable(0, 1), 0);
        });
        Holds.holds("The buffer, the reported error, the written text and saved states stay.", () -> {
            DecisionDiagrams x = Worlds.busy();
            x.undo();
            Check.equal("the error", Seen.REPORTED.of(x), "3 at 5");
            Check.equal("the text", Texts.written(x, 7), "b,c,d,a");
            Check.equal("the buffer's length", x.append(0x20202020, 0x20202020, 0x20202020, 0x20202020, 0x20202020), 43);
            Check.equal("the buffer's script", x.script(), 2);
            Check.equal("its cost", x.variable(0, 1), 33);
            Check.equal("what is saved", x.restore(0), Worlds.busy().restore(0));
            Check.equal("with its cost", x.variable(0, 1), 0);
            DecisionDiagrams y = Worlds.busy();
            y.save(1);
            y.undo();
            y.restore(1);
            Check.equal("what was saved as the change was there", Texts.order(y), "b,c,d,a");
        });
        Holds.holds("Returns the number of changes that can still be undone.", () -> {
            Check.equal("the only one", changed(1).undo(), 0);
            Check.equal("of two", changed(2).undo(), 1);
            Check.equal("of eight", changed(8).undo(), 7);
            Check.equal("of nine", changed(9).undo(), 7);
            DecisionDiagrams x = changed(30);
            for (int left = 7; left >= 0; left--) {
                Check.equal("undo", x.undo(), left);
                Check.equal("cost", x.variable(0, 1), 22 + left);
            }
        });
        Holds.holds("Throws `IllegalStateException` if there is none", () -> {
            Class<IllegalStateException> due = IllegalStateException.class;
            Refused.refused("a new object", due, DecisionDiagrams::new, DecisionDiagrams::undo);
            for (int changes : new int[] {1, 7, 8, 9, 17}) {
                Refused.refused("after " + changes, due, () -> allUndone(changes), DecisionDiagrams::undo);
                Check.equal("cost", allUndone(changes).variable(0, 1), Math.max(0, changes - 8));
            }
        });
    }

    private static DecisionDiagrams allUndone(int changes) {
        DecisionDiagrams x = changed(changes);
        for (int left = Math.min(changes, 8); left > 0; left--) {
            x.undo();
        }
        return x;
    }

    private static void save() {
        Holds.promise(49);
        Holds.holds("Saves the state in a slot, in place of what was saved there.", () -> {
            for (int slot = 0; slot < 2; slot++) {
                DecisionDiagrams x = Worlds.busy();
                x.save(slot);
                String first = Seen.STATE.of(x);
                x.drop(0);
                x.setCost(1, 99);
                x.setPercent(1, 0);
                x.swap(0);
                x.restore(slot);
                Check.equal("saved once", Seen.STATE.of(x), first);
                x.drop(0);
                x.save(slot);
                x.drop(0);
                x.restore(slot);
                Check.equal("saved twice", x.count(1), 3);
            }
        });
        Holds.holds(SLOT, () -> {
            DecisionDiagrams x = changed(1);
            x.save(0);
            x.setCost(0, 2);
            x.save(1);
            x.setCost(0, 3);
            x.restore(0);
            Check.equal("slot 0", x.variable(0, 1), 1);
            x.restore(1);
            Check.equal("slot 1", x.variable(0, 1), 2);
        });
        Holds.holds("Returns the size of the diagram.", () -> {
            DecisionDiagrams x = new DecisionDiagrams();
            Check.equal("both", x.save(0), 8);
            x.drop(0);
            Check.equal("odd", x.save(0), 5);
            x.drop(0);
            Check.equal("none", x.save(0), 0);
            Check.equal("changes stay", x.count(6), 2);
        });
        Holds.holds(NO_SLOT, () -> Refused.outside("slot", 0, 1, IndexOutOfBoundsException.class, Worlds::busy,
                DecisionDiagrams::save));
    }

    private static void restore() {
        Holds.promise(50);
        Holds.holds("Restores the state that was saved in a slot; it stays saved.", () -> {
            DecisionDiagrams x = Worlds.busy();
            x.restore(0);
            Check.equal("order", Texts.order(x), "a,b,c,d");
            Check.equal("cost", x.variable(0, 1), 0);
            Check.equal("percentage", x.variable(0, 2), 50);
            String state = Seen.STATE.of(x);
            x.drop(3);
            x.drop(0);
            x.siftAll();
            x.setCost(2, 5);
            x.restore(0);
            Check.equal("again", Seen.STATE.of(x), state);
            x.setPercent(2, 5);
            x.undo();
            x.restore(0);
            Check.equal("and again", Seen.STATE.of(x), state);
        });
        Holds.holds("Nothing can be undone then.", () -> {
            DecisionDiagrams x = Worlds.busy();
            x.restore(0);
            Check.equal("changes", x.count(6), 0);
            Check.raises("undo", IllegalStateException.class, x::undo);
            x.setCost(0, 1);
            Check.equal("undo of the one change since", x.undo(), 0);
        });
        Holds.holds(SLOT, () -> {
            DecisionDiagrams x = Worlds.busy();
            x.save(1);
            x.restore(0);
            Check.equal("slot 0", x.variable(0, 1), 0);
            x.restore(1);
            Check.equal("slot 1", x.variable(0, 1), 9);
        });
        Holds.holds("Returns the size of the diagram then.", () -> {
            DecisionDiagrams x = new DecisionDiagrams();
            x.save(1);
            x.drop(0);
            x.drop(0);
            x.save(0);
            Check.equal("both", x.restore(1), 8);
            Check.equal("none", x.restore(0), 0);
        });
        Holds.holds(NO_SLOT, () -> {
            Refused.outside("slot", 0, 1, IndexOutOfBoundsException.class, Worlds::busy, DecisionDiagrams::restore);
            Refused.outside("slot, nothing saved", 0, 1, IndexOutOfBoundsException.class, DecisionDiagrams::new,
                    DecisionDiagrams::restore);
        });
        Holds.holds("Throws `IllegalStateException` if nothing is saved there", () -> {
            Class<IllegalStateException> due = IllegalStateException.class;
            Refused.refused("slot 1, with slot 0", due, Worlds::busy, x -> x.restore(1));
            Refused.refused("slot 0, with slot 1", due, KeptSentences::savedInSlot1, x -> x.restore(0));
            Check.equal("slot 1, with slot 1", savedInSlot1().restore(1), 8);
        });
    }

    private static DecisionDiagrams savedInSlot1() {
        DecisionDiagrams x = changed(2);
        x.save(1);
        return x;
    }

    private static void writeFunction() {
        Holds.promise(51);
        Holds.holds("Writes the diagram of a function as a text that replaces the text that was written before:", () -> {
            DecisionDiagrams x = new DecisionDiagrams();
            Check.equal("odd", Texts.function(x, 1), "6;4:c 0,1;6:a 7,9;7:b 4,8;8:c 1,0;9:b 8,4");
            Check.equal("maj, which is shorter", Texts.function(x, 0), "2;2:a 3,5;3:b 0,4;4:c 0,1;5:b 4,1");
            Check.raises("no more bytes", IndexOutOfBoundsException.class, () -> x.textByte(33));
            x.writeOrder();
            Check.equal("odd, in place of the order", x.writeFunction(1), 41);
        });
        Holds.holds("- `f`: number of a function", () -> Edges.functionsThere("f", DecisionDiagrams::writeFunction));
        Holds.holds(LENGTH, () -> {
            DecisionDiagrams x = Texts.system("vars abcdefg;let f 0;let g 1;let h abcdefg;");
            Check.equal("0", x.writeFunction(0), 1);
            Check.equal("1", x.writeFunction(1), 1);
            Check.equal("abcdefg", x.writeFunction(2), 15);
            Check.raises("no more bytes", IndexOutOfBoundsException.class, () -> x.textByte(15));
            Check.equal("the last byte", x.textByte(14), '1');
        });
        Holds.holds("Throws `IndexOutOfBoundsException` if there is no such function",
                () -> Edges.noFunction("f", DecisionDiagrams::writeFunction));
    }

    private static void writeFunctionForm() {
        Holds.holds("the number of its root, and for each inner node that is reached from it, by ascending numbers,", () -> {
            DecisionDiagrams x = Texts.system("vars a b;let f 0;let g 1;let h !b;let i a&b;let j a=b;");
            Check.equal("leaf 0", Texts.function(x, 0), "0");
            Check.equal("leaf 1", Texts.function(x, 1), "1");
            Check.equal("the root alone", Texts.function(x, 2), "2;2:b 1,0");
            Check.equal("a&b", Texts.function(x, 3), "3;3:a 0,4;4:b 0,1");
            Check.equal("a root with the highest number", Texts.function(x, 4), "5;2:b 1,0;4:b 0,1;5:a 2,4");
        });
        Holds.holds("the number of its root, and for each inner node that is reached from it, by ascending numbers,",
                WrittenTest::longNumbers);
        Holds.holds("a semicolon (byte 59), the number of the node, a colon (byte 58), the name of its variable, a space "
                + "(byte 32), the number of the low child, a comma (byte 44) and the number of the high child.", () -> {
            DecisionDiagrams x = Texts.system("vars xy;let f xy;");
            int[] due = {'2', 59, '2', 58, 'x', 'y', 32, '0', 44, '1'};
            Check.equal("length", x.writeFunction(0), due.length);
            for (int index = 0; index < due.length; index++) {
                Check.equal("byte " + index, x.textByte(index), due[index]);
            }
            // two nodes for each variable but the first: numbers of one and of two digits
            DecisionDiagrams y = Texts.system(EIGHT + "let i a^b^c^d^e^f^g^h;");
            Check.equal("nine and ten", Texts.function(y, 0), "2;2:a 3,16;3:b 4,15;4:c 5,14;5:d 6,13;6:e 7,12;7:f 8,11;"
                    + "8:g 9,10;9:h 0,1;10:h 1,0;11:g 10,9;12:f 11,8;13:e 12,7;14:d 13,6;15:c 14,5;16:b 15,4");
        });
    }

    private static void writeOrder() {
        Holds.promise(52);
        Holds.holds("Writes the order as a text that replaces the text that was written before:", () -> {
            DecisionDiagrams x = new DecisionDiagrams();
            x.writeFunction(1);
            Check.equal("in place of odd", x.writeOrder(), 5);
            Check.equal("order", Texts.written(x, 5), "a,b,c");
            Check.raises("no more bytes", IndexOutOfBoundsException.class, () -> x.textByte(5));
        });
        Holds.holds("the names of the variables by ascending levels, with a comma (byte 44) between two.", () -> {
            Check.equal("one", Texts.order(Texts.system("vars z;")), "z");
            Check.equal("two", Texts.order(Texts.system("vars abcdefg b;")), "abcdefg,b");
            DecisionDiagrams x = Texts.system("vars aaaaaaa b c d e f g hhhhhhh;");
            Check.equal("eight", Texts.order(x), "aaaaaaa,b,c,d,e,f,g,hhhhhhh");
            x.move(7, 0);
            Check.equal("moved", Texts.order(x), "hhhhhhh,aaaaaaa,b,c,d,e,f,g");
            Check.equal("a comma", x.textByte(7), 44);
        });
        Holds.holds(LENGTH, () -> {
            Check.equal("the shortest", Texts.system("vars z;").writeOrder(), 1);
            DecisionDiagrams x = Texts.system(
                    "vars aaaaaaa bbbbbbb ccccccc ddddddd eeeeeee fffffff ggggggg hhhhhhh;");
            Check.equal("the longest", x.writeOrder(), 63);
            Check.equal("the last byte", x.textByte(62), 'h');
            Check.raises("no more bytes", IndexOutOfBoundsException.class, () -> x.textByte(63));
        });
    }

    private static void textByte() {
        Holds.promise(53);
        Holds.holds("Returns a byte of the text that was written last.", () -> {
            DecisionDiagrams x = new DecisionDiagrams();
            x.writeFunction(0);
            x.writeOrder();
            Check.equal("of the order", x.textByte(1), ',');
            x.writeFunction(0);
            Check.equal("of maj", x.textByte(1), ';');
            x.swap(0);
            x.undo();
            Texts.load(x, "vars z;");
            Check.equal("other calls leave it", x.textByte(4), 'a');
            Check.raises("a refused call", IndexOutOfBoundsException.class, () -> x.writeFunction(0));
            Check.equal("a refused call leaves it", x.textByte(4), 'a');
        });
        Holds.holds("- `index`: index of the byte, from 0", () -> {
            DecisionDiagrams x = new DecisionDiagrams();
            x.writeFunction(0);
            Check.equal("the first", x.textByte(0), '2');
            Check.equal("the last", x.textByte(32), '1');
        });
        Holds.holds("Returns the byte.", () -> {
            Check.equal("a", Worlds.full().textByte(2), 97);
            DecisionDiagrams x = Texts.system("vars z;");
            x.writeOrder();
            Check.equal("z", x.textByte(0), 122);
        });
        Holds.holds("Throws `IndexOutOfBoundsException` if there is no such byte,", () -> {
            Class<IndexOutOfBoundsException> due = IndexOutOfBoundsException.class;
            Refused.outside("index", 0, 6, due, Worlds::busy, DecisionDiagrams::textByte);
            Refused.outside("index", 0, 0, due, Worlds::one, DecisionDiagrams::textByte);
            Refused.outside("index", 0, 14, due, Worlds::eight, DecisionDiagrams::textByte);
        });
        Holds.holds("or no text was written", () -> {
            Class<IndexOutOfBoundsException> due = IndexOutOfBoundsException.class;
            Refused.outside("index", 0, -1, due, DecisionDiagrams::new, DecisionDiagrams::textByte);
            Refused.outside("index", 0, -1, due, () -> changed(3), DecisionDiagrams::textByte);
        });
    }
}
