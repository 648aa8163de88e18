import java.lang.reflect.Method;
import java.util.ArrayList;
import java.util.List;

/** No sentence is without a test: what each promise refuses, in which order, and that it then changes nothing. */
public final class SentencesTest {
    private static final Class<?>[] TESTS = {
        UnitEdgesTest.class, RowEdgesTest.class, TotalEdgesTest.class, CertificateEdgesTest.class, RefusalsTest.class};
    private static final int PROMISES = 27;
    /** What the document names for each promise, from promise 1 on. */
    private static final String[] NAMED = {
        "", "FULL", "UNKNOWN BAD STATE FULL", "UNKNOWN BAD", "UNKNOWN BAD", "UNKNOWN BAD",
        "UNKNOWN BAD STATE FULL", "UNKNOWN BAD", "BAD FULL", "UNKNOWN BAD NONE", "UNKNOWN NONE", "UNKNOWN BAD",
        "UNKNOWN BAD NONE",
        "UNKNOWN BAD NONE", "UNKNOWN BAD NONE", "UNKNOWN BAD NONE", "BAD", "BAD NONE",
        "UNKNOWN BAD FULL", "UNKNOWN BAD STATE", "UNKNOWN BAD STATE FULL", "UNKNOWN", "UNKNOWN NONE", "UNKNOWN",
        "", "UNKNOWN BAD", "BAD"};

    public static void main(String[] args) {
        Due.is("promises", NAMED.length, PROMISES);
        for (int promise = 1; promise <= PROMISES; promise++) {
            lookAt(promise, wordsOf(promise));
        }
        Due.finish();
    }

    private static List<String> wordsOf(int promise) {
        List<String> found = new ArrayList<>();
        for (Class<?> test : TESTS) {
            for (Method method : Sentences.of(test)) {
                Says says = method.getAnnotation(Says.class);
                if (says.promise() == promise) {
                    found.add(says.words());
                }
            }
        }
        return found;
    }

    private static void lookAt(int promise, List<String> words) {
        Due.about("promise " + promise);
        Due.holds("has a test", !words.isEmpty());
        int refusals = 0;
        for (String name : NAMED[promise - 1].split(" ")) {
            if (!name.isEmpty()) {
                Due.holds("has a test for " + name, words.stream().anyMatch(each -> each.contains(name)));
                refusals += name.equals("NONE") ? 0 : 1;
            }
        }
        if (refusals > 0) {
            Due.holds("has a test that a refusal changes nothing", words.contains("What is refused changes nothing."));
        }
        if (refusals > 1) {
            Due.holds("has a test of the order", words.contains("Of several what is told first."));
        }
    }
}
