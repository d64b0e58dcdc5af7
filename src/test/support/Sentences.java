import java.lang.reflect.InvocationTargetException;
import java.lang.reflect.Method;

/** Runs the tests of a class, each of which belongs to one sentence of the document. */
final class Sentences {
    static void runAll(Class<?> tests) {
        int run = 0;
        for (Method test : tests.getDeclaredMethods()) {
            Sentence sentence = test.getAnnotation(Sentence.class);
            if (sentence != null) {
                Checks.about(sentence.in() + ", '" + sentence.words() + "', " + test.getName());
                run(test);
                run++;
            }
        }
        if (run == 0) {
            Checks.fail(tests.getName() + " has no tests");
        }
        System.out.print(run + " tests, ");
        Checks.finish();
    }

    private static void run(Method test) {
        int before = Checks.asked();
        try {
            test.invoke(null);
        } catch (InvocationTargetException e) {
            Checks.fail("ended by " + e.getCause());
        } catch (IllegalAccessException e) {
            Checks.fail("cannot be run: " + e);
        }
        if (Checks.asked() == before) {
            Checks.fail("asks nothing");
        }
    }
}
