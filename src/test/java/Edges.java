import java.lang.reflect.InvocationTargetException;
import java.lang.reflect.Method;
import java.util.Map;
import java.util.TreeMap;

/** Runs every method of a class that {@link Holds} a sentence, each by itself, and names the sentence that broke. */
final class Edges {
    private Edges() {
    }

    static void run(Class<?> tests) {
        Due due = new Due(tests.getSimpleName());
        Map<String, Method> sentences = new TreeMap<>();
        for (Method method : tests.getDeclaredMethods()) {
            Holds holds = method.getAnnotation(Holds.class);
            if (holds != null) {
                Method other = sentences.put(holds.value(), method);
                due.is("another test has the sentence of " + method.getName(), other == null ? 0 : 1, 0);
            }
        }
        for (Map.Entry<String, Method> sentence : sentences.entrySet()) {
            due.under("[" + sentence.getKey() + "] " + sentence.getValue().getName());
            runOne(due, sentence.getValue());
        }
        System.out.println(tests.getSimpleName() + ": " + sentences.size() + " sentences");
        due.end();
    }

    private static void runOne(Due due, Method test) {
        int before = due.asked();
        try {
            test.invoke(null, due);
        } catch (InvocationTargetException thrown) {
            due.is("a call threw " + thrown.getCause(), 1, 0);
        } catch (IllegalAccessException hidden) {
            due.is("the test can't be run, " + hidden, 1, 0);
        }
        due.is("asked anything", due.asked() > before ? 1 : 0, 1);
    }
}
