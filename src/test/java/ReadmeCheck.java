import java.io.ByteArrayOutputStream;
import java.io.PrintStream;
import java.nio.charset.StandardCharsets;
import java.util.function.Supplier;

/** Checks what the examples of README.md say of their answers. */
final class ReadmeCheck {
    private ReadmeCheck() {
    }

    /** The answer is written as the example does: a text in quotes, an exception behind "throws". */
    static void answers(String example, Supplier<Object> call, String due) {
        Check.equal(example, written(call), due);
    }

    private static String written(Supplier<Object> call) {
        try {
            Object answer = call.get();
            return answer instanceof String ? "\"" + answer + "\"" : String.valueOf(answer);
        } catch (RuntimeException e) {
            return "throws " + e.getClass().getSimpleName();
        }
    }

    static void prints(Runnable program, String due) {
        PrintStream console = System.out;
        ByteArrayOutputStream printed = new ByteArrayOutputStream();
        System.setOut(new PrintStream(printed, true, StandardCharsets.ISO_8859_1));
        try {
            program.run();
        } finally {
            System.setOut(console);
        }
        Check.equal("Example", printed.toString(StandardCharsets.ISO_8859_1).strip().replace("\r", ""), due);
    }
}
