import java.io.IOException;
import java.lang.reflect.Constructor;
import java.lang.reflect.Field;
import java.lang.reflect.Method;
import java.lang.reflect.Modifier;
import java.nio.file.Files;
import java.nio.file.Path;
import java.util.ArrayList;
import java.util.Arrays;
import java.util.List;
import java.util.TreeSet;

/** The face is the document's and nothing more, and the source keeps to what of LANGUAGE.md can be seen by looking. */
public final class FaceTest {
    private static final String[] METHODS = {
        "int set(int, int)", "int write(int, int, int, long)", "int wipeLast()", "int fade(int, int, int)",
        "int spoil(int)", "int of(int, int)", "long load(int)", "int read(int, int, int)", "int cell(int, int)",
        "int count(int)", "int reached()", "int near(int, int)", "int mostLeast(int)", "int weak(int, int)",
        "int widest(int)", "int put(long)", "int wipe()", "int fault()", "int carryOut()", "int undo()",
        "int save(int)", "int restore(int)"};
    private static final String[] CONSTANTS = {
        "NO_SUCH", "BAD_VALUE", "BAD_TEXT", "TOO_MANY", "NOT_POSSIBLE", "NONE", "LOUD", "LEAST", "SLIP"};

    private FaceTest() {
    }

    public static void main(String[] args) throws IOException {
        methods();
        constants();
        classesInside();
        source();
        Due.end();
    }

    private static String face(Method method) {
        List<String> types = new ArrayList<>();
        for (Class<?> type : method.getParameterTypes()) {
            types.add(type.getName());
        }
        return method.getReturnType() + " " + method.getName() + "(" + String.join(", ", types) + ")";
    }

    private static void methods() {
        Class<?> made = CassetteTones.class;
        TreeSet<String> open = new TreeSet<>();
        for (Method method : made.getDeclaredMethods()) {
            if (!Modifier.isPrivate(method.getModifiers())) {
                open.add(face(method));
            }
        }
        Due.holds("the methods are those of the document: " + open, open.equals(new TreeSet<>(Arrays.asList(METHODS))));
        privateNames(made);
        Constructor<?>[] constructors = made.getDeclaredConstructors();
        Due.is("constructors", constructors.length, 1);
        Due.holds("the constructor is public and takes nothing",
            Modifier.isPublic(constructors[0].getModifiers()) && constructors[0].getParameterCount() == 0);
        Due.holds("the class is public and final",
            Modifier.isPublic(made.getModifiers()) && Modifier.isFinal(made.getModifiers()));
    }

    private static void privateNames(Class<?> made) {
        String calls = String.join(" ", METHODS);
        for (Method method : made.getDeclaredMethods()) {
            Due.holds("no private method is called " + made + "." + method.getName(),
                !Modifier.isPrivate(method.getModifiers()) || !calls.contains(" " + method.getName() + "("));
            Due.holds("no lambda in " + made, !method.getName().startsWith("lambda$"));
        }
    }

    private static void constants() {
        TreeSet<String> open = new TreeSet<>();
        for (Field field : CassetteTones.class.getDeclaredFields()) {
            if (!Modifier.isPrivate(field.getModifiers())) {
                open.add(field.getName());
                Due.holds(field.getName() + " is a public constant", Modifier.isPublic(field.getModifiers())
                    && Modifier.isStatic(field.getModifiers()) && Modifier.isFinal(field.getModifiers()));
            }
        }
        Due.holds("the constants are those of the document: " + open,
            open.equals(new TreeSet<>(Arrays.asList(CONSTANTS))));
    }

    private static void classesInside() {
        Class<?>[] inside = CassetteTones.class.getDeclaredClasses();
        Due.holds("at most twelve classes", inside.length < 12);
        for (Class<?> one : inside) {
            Due.holds(one + " is static", Modifier.isStatic(one.getModifiers()));
            Due.holds(one + " is not open",
                !Modifier.isPublic(one.getModifiers()) && !Modifier.isProtected(one.getModifiers()));
            long fields = Arrays.stream(one.getDeclaredFields())
                .filter(field -> !Modifier.isStatic(field.getModifiers())).count();
            Due.holds(one + " has at most twenty fields", fields <= 20);
            privateNames(one);
        }
    }

    private static void source() throws IOException {
        String all = Files.readString(Path.of("src/main/java/CassetteTones.java"));
        String code = all.replaceAll("(?s)/\\*.*?\\*/", "").replaceAll("//[^\n]*", "");
        for (String word : new String[] {"throw", "throws", "try", "catch", "finally", "synchronized", "assert",
            "package", "native", "volatile", "transient", "hashCode"}) {
            Due.holds("the source has no " + word, !code.matches("(?s).*\\b" + word + "\\b.*"));
        }
        Due.holds("no method reference", !code.contains("::"));
        Due.holds("no Exact function", !code.matches("(?s).*\\w+Exact\\b.*"));
        Due.holds("no static initialiser block", !code.matches("(?s).*\\bstatic\\s*\\{.*"));
        for (int at = 0; at < all.length(); at++) {
            if (all.charAt(at) > 127) {
                Due.holds("the sign " + (int) all.charAt(at) + " at " + at, false);
            }
        }
    }
}
