import java.io.IOException;
import java.lang.reflect.Constructor;
import java.lang.reflect.Field;
import java.lang.reflect.Method;
import java.lang.reflect.Modifier;
import java.nio.charset.StandardCharsets;
import java.nio.file.Files;
import java.nio.file.Path;
import java.util.Arrays;
import java.util.Set;
import java.util.TreeSet;
import java.util.regex.Matcher;
import java.util.regex.Pattern;

/** The public face of the document, and rules of LANGUAGE.md that can be seen from outside. */
public final class FaceTest {
    private static final Check CHECK = new Check("FaceTest");
    private static final Path SOURCE = Path.of("src/main/java/PeriodicNet.java");
    private static final String[] METHODS = {"int reset(int)", "int addEdge(int, int, int, int)",
        "int removeEdge(int)", "int findEdge(int, int, int, int)", "int moveVertex(int, int, int)",
        "int changeBasis(int)", "int vertices()", "int edges()", "int degree(int)",
        "int neighbour(int, int)", "int coordination(int, int)",
        "int distance(int, int, int, int)", "int rank(int)", "int index(int)",
        "int isConnected()", "int ring(int, int, int)", "long numerator(int, int)",
        "long denominator(int, int)", "int collide(int, int)", "int collisions()",
        "int positionBits(int, int)", "int undo()", "int errorCount(int)", "long digest()"};

    private FaceTest() {
    }

    public static void main(String[] args) throws IOException {
        constants();
        members();
        nestedClasses();
        String code = withoutComments(Files.readString(SOURCE, StandardCharsets.ISO_8859_1));
        words(code);
        methodLengths(code);
        CHECK.end();
    }

    private static void constants() {
        CHECK.due("OUT_OF_RANGE", PeriodicNet.OUT_OF_RANGE, -2);
        CHECK.due("EXISTS", PeriodicNet.EXISTS, -3);
        CHECK.due("FULL", PeriodicNet.FULL, -4);
        CHECK.due("TOO_FAR", PeriodicNet.TOO_FAR, -5);
        CHECK.due("NOT_CONNECTED", PeriodicNet.NOT_CONNECTED, -6);
        CHECK.due("NOTHING_SAVED", PeriodicNet.NOTHING_SAVED, -7);
        CHECK.due("NONE", PeriodicNet.NONE, -1);
    }

    private static String signature(Method method) {
        String types = Arrays.toString(method.getParameterTypes());
        return method.getReturnType() + " " + method.getName() + "("
            + types.substring(1, types.length() - 1) + ")";
    }

    private static void members() {
        int flags = PeriodicNet.class.getModifiers();
        CHECK.holds("the class is public and final",
            Modifier.isPublic(flags) && Modifier.isFinal(flags));
        Set<String> methods = new TreeSet<>();
        for (Method method : PeriodicNet.class.getDeclaredMethods()) {
            if (!Modifier.isPrivate(method.getModifiers())) {
                CHECK.due(method + " is public and nothing else", method.getModifiers(),
                    Modifier.PUBLIC);
                methods.add(signature(method));
            }
        }
        CHECK.holds("the methods are " + methods, methods.equals(Set.of(METHODS)));
        for (Constructor<?> constructor : PeriodicNet.class.getDeclaredConstructors()) {
            CHECK.holds(constructor + " is public and bare",
                constructor.getModifiers() == Modifier.PUBLIC
                    && constructor.getParameterCount() == 0);
        }
        int seen = 0;
        for (Field field : PeriodicNet.class.getDeclaredFields()) {
            int bits = field.getModifiers();
            seen += Modifier.isPrivate(bits) ? 0 : 1;
            CHECK.holds(field + " is final, if it is static",
                Modifier.isFinal(bits) || !Modifier.isStatic(bits));
        }
        CHECK.due("fields that are not private", seen, 7);
    }

    private static void nestedClasses() {
        Set<String> open = new TreeSet<>();
        for (String method : METHODS) {
            open.add(method.substring(method.indexOf(' ') + 1, method.indexOf('(')));
        }
        Class<?>[] nested = PeriodicNet.class.getDeclaredClasses();
        CHECK.holds("at most 12 classes", nested.length < 12);
        for (Class<?> kind : nested) {
            CHECK.holds(kind + " is not open",
                (kind.getModifiers() & (Modifier.PUBLIC | Modifier.PROTECTED)) == 0);
            for (Method method : kind.getDeclaredMethods()) {
                CHECK.holds(method + " has a name of its own", !open.contains(method.getName()));
            }
        }
        for (Method method : PeriodicNet.class.getDeclaredMethods()) {
            boolean own = !Modifier.isPrivate(method.getModifiers());
            CHECK.holds(method + " has a name of its own",
                own || !open.contains(method.getName()));
            CHECK.holds(method + " has few parameters", method.getParameterCount() <= 7);
        }
    }

    private static String withoutComments(String source) {
        return source.replaceAll("(?s)/\\*.*?\\*/", "").replaceAll("//[^\n]*", "");
    }

    private static void words(String code) {
        String[] banned = {"import", "package", "java", "throw", "throws", "try", "catch",
            "finally", "assert", "synchronized", "volatile", "native", "instanceof", "protected",
            "while", "Float", "Double", "Math", "Thread", "Random", "Object", "null", "var",
            "NaN", "Infinity"};
        for (String word : banned) {
            boolean found = Pattern.compile("\\b" + word + "\\b").matcher(code).find();
            CHECK.holds("the program does without " + word, !found);
        }
        CHECK.holds("no lambda", !code.contains("->"));
        CHECK.holds("no method reference", !code.contains("::"));
        CHECK.holds("no text", code.indexOf('"') < 0);
        CHECK.holds("no static block", !Pattern.compile("static\\s*\\{").matcher(code).find());
        CHECK.holds("plain signs only", code.chars().allMatch(c -> c < 128));
    }

    /** Rule 11: some sixty lines a method; by this program's layout a method ends with its brace. */
    private static void methodLengths(String code) {
        Pattern head = Pattern.compile("(?m)^( {4}| {8})[a-zA-Z][^;=\n]*\\) \\{$");
        Matcher heads = head.matcher(code);
        int methods = 0;
        while (heads.find()) {
            String word = heads.group().trim().split("[ (]")[0];
            if (!Set.of("if", "for", "switch").contains(word)) {
                methods++;
                int end = code.indexOf("\n" + heads.group(1) + "}", heads.end());
                String body = code.substring(heads.start(), Math.max(end, heads.start()));
                CHECK.holds(heads.group().trim() + " is short",
                    end > 0 && body.chars().filter(c -> c == '\n').count() < 60);
            }
        }
        CHECK.holds("methods are found in the source", methods > METHODS.length);
    }
}
