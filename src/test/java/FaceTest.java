import java.io.IOException;
import java.lang.reflect.Constructor;
import java.lang.reflect.Executable;
import java.lang.reflect.Field;
import java.lang.reflect.Method;
import java.lang.reflect.Modifier;
import java.nio.file.Files;
import java.nio.file.Path;
import java.util.ArrayList;
import java.util.Arrays;
import java.util.List;
import java.util.TreeSet;
import java.util.stream.Collectors;

/** "The public face": each constant, constructor and method with its exceptions, and nothing else. */
final class FaceTest {
    private static final Class<?> FACE = DecisionDiagrams.class;

    public static void main(String[] args) throws IOException, IllegalAccessException {
        List<String> due = new ArrayList<>();
        for (String line : Files.readAllLines(Path.of("../shared/DOC.md"))) {
            if (line.startsWith("    public ")) {
                due.add(line.strip().replaceAll("(int|boolean) [a-z]+([,)])", "$1$2"));
            }
        }
        Check.equal("calls and the constant that the document lists", due.size(), 54);
        Check.equal("face", String.join("\n", new TreeSet<>(face())), String.join("\n", new TreeSet<>(due)));
        Check.equal("the class", Modifier.toString(FACE.getModifiers()), "public final");
        Check.equal("no package", FACE.getPackageName(), "");
        for (Method method : FACE.getDeclaredMethods()) {
            Check.report(Modifier.isPublic(method.getModifiers())
                    || due.stream().noneMatch(line -> line.contains(" " + method.getName() + "(")),
                    "the private method " + method.getName() + " has the name of a public one");
        }
        for (Class<?> inside : FACE.getDeclaredClasses()) {
            Check.report(Modifier.isStatic(inside.getModifiers()) && !Modifier.isPublic(inside.getModifiers()),
                    inside + " shows");
        }
        Check.finish("FaceTest");
    }

    /** All members that are not private, as the document writes them. */
    private static List<String> face() throws IllegalAccessException {
        List<String> face = new ArrayList<>();
        for (Field field : FACE.getDeclaredFields()) {
            if (!Modifier.isPrivate(field.getModifiers())) {
                face.add(Modifier.toString(field.getModifiers()) + " int " + field.getName() + " = " + field.get(null) + ";");
            }
        }
        for (Constructor<?> constructor : FACE.getDeclaredConstructors()) {
            add(face, constructor, "", "DecisionDiagrams");
        }
        for (Method method : FACE.getDeclaredMethods()) {
            add(face, method, method.getReturnType() + " ", method.getName());
        }
        return face;
    }

    private static void add(List<String> face, Executable call, String type, String name) {
        if (!Modifier.isPrivate(call.getModifiers())) {
            String line = Modifier.toString(call.getModifiers()) + " " + type + name + "("
                    + names(call.getParameterTypes()) + ")";
            face.add(call.getExceptionTypes().length == 0 ? line + ";" : line + " throws "
                    + names(call.getExceptionTypes()) + ";");
        }
    }

    private static String names(Class<?>[] classes) {
        return Arrays.stream(classes).map(Class::getSimpleName).collect(Collectors.joining(", "));
    }
}
