import java.nio.charset.StandardCharsets;
import java.util.ArrayList;
import java.util.Arrays;
import java.util.List;

/** Puts texts into the input buffer of an object, and takes out what it wrote. */
final class Texts {
    private Texts() {
    }

    /** Makes the buffer hold just this text; each character is a byte. */
    static void put(DecisionDiagrams x, String text) {
        x.truncate(0);
        for (int[] part : appends(text)) {
            x.append(part[0], part[1], part[2], part[3], part[4]);
        }
        x.truncate(text.length());
    }

    /** The arguments of the calls of append that bring a text into an empty buffer, with some bytes too many. */
    static List<int[]> appends(String text) {
        List<int[]> appends = new ArrayList<>();
        byte[] bytes = text.getBytes(StandardCharsets.ISO_8859_1);
        for (int from = 0; from < bytes.length; from += 20) {
            byte[] part = Arrays.copyOfRange(bytes, from, from + 20);
            appends.add(new int[] {four(part, 0), four(part, 4), four(part, 8), four(part, 12), four(part, 16)});
        }
        return appends;
    }

    private static int four(byte[] bytes, int from) {
        int four = 0;
        for (int i = from; i < from + 4; i++) {
            four = four << 8 | bytes[i] & 255;
        }
        return four;
    }

    static DecisionDiagrams system(String text) {
        DecisionDiagrams x = new DecisionDiagrams();
        load(x, text);
        return x;
    }

    static int load(DecisionDiagrams x, String text) {
        put(x, text);
        return x.load();
    }

    static int script(DecisionDiagrams x, String text) {
        put(x, text);
        return x.script();
    }

    static int find(DecisionDiagrams x, String name) {
        put(x, name);
        return x.find();
    }

    static String written(DecisionDiagrams x, int length) {
        StringBuilder text = new StringBuilder();
        for (int i = 0; i < length; i++) {
            text.append((char) x.textByte(i));
        }
        return text.toString();
    }

    static String function(DecisionDiagrams x, int f) {
        return written(x, x.writeFunction(f));
    }

    static String order(DecisionDiagrams x) {
        return written(x, x.writeOrder());
    }

    /** All values of a function, from assignment 0 on. */
    static String values(DecisionDiagrams x, int f) {
        StringBuilder values = new StringBuilder();
        for (int assignment = 0; assignment < 1 << x.count(0); assignment++) {
            values.append(x.value(f, assignment));
        }
        return values.toString();
    }
}
