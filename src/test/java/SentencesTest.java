import java.lang.reflect.Method;
import java.util.Set;
import java.util.TreeSet;

/** Each promise has tests of its boundaries, and no two tests bear the same sentence. */
public final class SentencesTest {
    private static final Check check = new Check("SentencesTest");
    private static final Class<?>[] TESTS = {BoundariesOfTermsTest.class, BoundariesOfChangesTest.class,
        BoundariesOfRulingsTest.class, BoundariesOfEditionsTest.class, BoundariesOfTextsTest.class,
        BoundariesOfLooksTest.class, BoundariesOfHistoryTest.class};

    public static void main(String[] args) {
        Set<String> sentences = new TreeSet<>();
        Set<Integer> promises = new TreeSet<>();
        for (Class<?> tests : TESTS) {
            for (Method method : tests.getDeclaredMethods()) {
                Says says = method.getAnnotation(Says.class);
                if (says != null) {
                    check.dueTrue("one test of: " + says.value(), sentences.add(says.value()));
                    promises.add(promiseOf(says.value()));
                }
            }
        }
        for (int promise = 1; promise <= 29; promise++) {
            check.dueTrue("a test of the promise " + promise, promises.contains(promise));
        }
        check.end();
    }

    /** A sentence of a promise begins with its number, one of the 'Terms' with none. */
    private static int promiseOf(String sentence) {
        int number = 0;
        int place = 0;
        while (place < sentence.length() && Character.isDigit(sentence.charAt(place))) {
            number = 10 * number + sentence.charAt(place) - '0';
            place++;
        }
        return place < sentence.length() && sentence.charAt(place) == ':' ? number : 0;
    }
}
