import java.lang.reflect.InvocationTargetException;
import java.lang.reflect.Method;
import java.util.ArrayList;
import java.util.Comparator;
import java.util.List;

/** Runs the tests of a class that tell which sentence of the document they are for. */
final class Sentences {
    private Sentences() {
    }

    static List<Method> testsOf(Class<?> tests) {
        List<Method> found = new ArrayList<>();
        for (Method method : tests.getDeclaredMethods()) {
            if (method.isAnnotationPresent(Sentence.class)) {
                found.add(method);
            }
        }
        found.sort(Comparator.comparing(Method::getName));
        return found;
    }

    /** Runs them, each with a Check of its own; ends with exit code 1 if one failed. */
    static void run(Class<?> tests) {
        Doc doc = Doc.read();
        int failed = 0;
        int answers = 0;
        List<Method> all = testsOf(tests);
        for (Method test : all) {
            Sentence sentence = test.getAnnotation(Sentence.class);
            Check check = new Check(test.getName() + " [" + sentence.in() + ": \""
                + sentence.says() + "\"]");
            runOne(test, check);
            check.holds("the test looks at an answer", check.looked() > 0);
            check.holds("the document has this sentence under this heading",
                doc.text(sentence.in()).contains(sentence.says()));
            failed += check.wrong() > 0 ? 1 : 0;
            answers += check.looked();
        }
        System.out.println(tests.getSimpleName() + ": " + all.size() + " tests, " + answers
            + " answers, " + failed + " tests failed");
        if (failed > 0 || all.isEmpty()) {
            System.exit(1);
        }
    }

    private static void runOne(Method test, Check check) {
        try {
            test.invoke(null, check);
        } catch (InvocationTargetException e) {
            check.holds("no exception, not " + e.getCause(), false);
        } catch (IllegalAccessException e) {
            throw new IllegalStateException(e);
        }
    }
}
