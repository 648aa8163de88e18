import java.lang.reflect.InvocationTargetException;
import java.lang.reflect.Method;
import java.util.ArrayList;
import java.util.Comparator;
import java.util.List;

/** Runs the tests of a class, one for each sentence. They are found by Says, so that none is forgotten. */
final class Sentences {
    private Sentences() {
    }

    static List<Method> of(Class<?> test) {
        List<Method> found = new ArrayList<>();
        for (Method method : test.getDeclaredMethods()) {
            if (method.isAnnotationPresent(Says.class)) {
                found.add(method);
            }
        }
        // The machine hands methods out in any order, and two runs should print the same.
        found.sort(Comparator.comparingInt((Method method) -> method.getAnnotation(Says.class).promise())
                .thenComparing(Method::getName));
        return found;
    }

    static void runAll(Class<?> test) throws IllegalAccessException {
        List<Method> all = of(test);
        for (Method method : all) {
            run(method);
        }
        System.out.println(all.size() + " sentences");
        Due.finish();
    }

    private static void run(Method method) throws IllegalAccessException {
        Says says = method.getAnnotation(Says.class);
        Due.about("promise " + says.promise() + ", " + method.getName() + ", \"" + says.words() + "\"");
        int before = Due.asked();
        try {
            method.invoke(null);
        } catch (InvocationTargetException thrown) {
            Due.holds("no call throws " + thrown.getCause(), false);
        }
        Due.holds("something was asked", Due.asked() > before);
    }
}
