import java.lang.reflect.InvocationTargetException;
import java.lang.reflect.Method;
import java.util.Arrays;
import java.util.Comparator;

/** Runs each test of a sentence in a class of tests. */
final class Sentences {
    private Sentences() {
    }

    /** Ends with exit code 1 if a sentence does not hold. */
    static void test(Class<?> tests) {
        Check check = new Check();
        Method[] methods = tests.getDeclaredMethods();
        Arrays.sort(methods, Comparator.comparing(Method::getName));
        int count = 0;
        for (Method method : methods) {
            Sentence sentence = method.getAnnotation(Sentence.class);
            if (sentence != null) {
                count++;
                check.begin(sentence.value());
                run(check, method);
            }
        }
        check.begin("a class of tests has tests");
        check.due(tests.getName(), count > 0, true);
        System.out.println(count + " sentences");
        check.finish();
    }

    private static void run(Check check, Method method) {
        try {
            method.invoke(null, check);
        } catch (InvocationTargetException thrown) {
            check.due(method.getName(), "threw " + thrown.getCause(), "no exception");
        } catch (IllegalAccessException thrown) {
            throw new IllegalStateException(thrown);
        }
    }
}
