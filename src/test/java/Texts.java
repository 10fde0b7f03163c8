import java.nio.charset.StandardCharsets;
import java.util.Arrays;

/** Puts texts into the input buffer of an object, and takes out what it wrote. */
final class Texts {
    private Texts() {
    }

    /** Makes the buffer hold just this text; each character is a byte. */
    static void put(DecisionDiagrams x, String text) {
        x.truncate(0);
        byte[] bytes = text.getBytes(StandardCharsets.ISO_8859_1);
        for (int from = 0; from < bytes.length; from += 20) {
            byte[] part = Arrays.copyOfRange(bytes, from, from + 20);
            x.append(four(part, 0), four(part, 4), four(part, 8), four(part, 12), four(part, 16));
        }
        x.truncate(bytes.length);
    }

    static int four(byte[] bytes, int from) {
        int four = 0;
        for (int i = from; i < from + 4; i++) {
            four = four << 8 | bytes[i] & 255;
        }
        return four;
    }

    static DecisionDiagrams system(String text) {
        DecisionDiagrams x = new DecisionDiagrams();
        load(x, text);
        return x;
    }

    static int load(DecisionDiagrams x, String text) {
        put(x, text);
        return x.load();
    }

    static int script(DecisionDiagrams x, String text) {
        put(x, text);
        return x.script();
    }

    static int find(DecisionDiagrams x, String name) {
        put(x, name);
        return x.find();
    }

    static String written(DecisionDiagrams x, int length) {
        StringBuilder text = new StringBuilder();
        for (int i = 0; i < length; i++) {
            text.append((char) x.textByte(i));
        }
        return text.toString();
    }

    static String function(DecisionDiagrams x, int f) {
        return written(x, x.writeFunction(f));
    }

    static String order(DecisionDiagrams x) {
        return written(x, x.writeOrder());
    }

    /** All values of a function, from assignment 0 on. */
    static String values(DecisionDiagrams x, int f) {
        StringBuilder values = new StringBuilder();
        for (int assignment = 0; assignment < 1 << x.count(0); assignment++) {
            values.append(x.value(f, assignment));
        }
        return values.toString();
    }
}
