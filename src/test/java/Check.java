import java.lang.reflect.Method;
import java.util.Arrays;
import java.util.Comparator;

/** Compares the answers of a court with those that are due, and counts the wrong ones. */
final class Check {
    static final int INVALID = -1, NOT_POSSIBLE = -2, LIMIT = -3, NOT_FOUND = -4;
    static final int MIN = Integer.MIN_VALUE, MAX = Integer.MAX_VALUE;
    private static final int LONGEST_TEXT = 23;

    private final String test;
    private String sentence = "";
    private int wrong;
    private int asked;
    private int sentences;

    Check(String test) {
        this.test = test;
    }

    /** Runs all tests of a class that tell by Says which sentence they are about. */
    void runAll(Class<?> tests) {
        Method[] methods = tests.getDeclaredMethods();
        Arrays.sort(methods, Comparator.comparing(Method::getName));
        for (Method method : methods) {
            Says says = method.getAnnotation(Says.class);
            if (says != null) {
                sentences++;
                sentence = "[" + method.getName() + ": " + says.value() + "] ";
                run(method);
            }
        }
        dueTrue("there are tests", sentences > 0);
    }

    private void run(Method method) {
        try {
            method.setAccessible(true);
            method.invoke(null);
        } catch (ReflectiveOperationException fault) {
            dueTrue("a run without " + fault.getCause(), false);
        }
    }

    int asked() {
        return asked;
    }

    void due(String call, long got, long want) {
        asked++;
        if (got != want) {
            wrong++;
            System.out.println(test + ": " + sentence + call + " answered " + got + ", due is " + want);
        }
    }

    void dueDouble(String call, double got, double want) {
        asked++;
        if (got != want) {
            wrong++;
            System.out.println(test + ": " + sentence + call + " answered " + got + ", due is " + want);
        }
    }

    void dueTrue(String what, boolean holds) {
        asked++;
        if (!holds) {
            wrong++;
            System.out.println(test + ": " + sentence + what + " does not hold");
        }
    }

    /** Puts a text on the pad, in place of what was there. */
    static void type(CommaCourt court, String text) {
        court.clear();
        for (int place = 0; place < text.length(); place++) {
            court.append(text.charAt(place));
        }
    }

    /** A court with these editions. */
    static CommaCourt courtWith(String... editions) {
        CommaCourt court = new CommaCourt();
        for (String edition : editions) {
            type(court, edition);
            court.print();
        }
        return court;
    }

    static String textOf(CommaCourt court, int edition) {
        StringBuilder text = new StringBuilder();
        int sign = court.sign(edition, 0);
        while (sign > 0 && text.length() < LONGEST_TEXT) {
            text.append((char) sign);
            sign = court.sign(edition, text.length());
        }
        return text.toString();
    }

    void dueText(String call, CommaCourt court, int edition, String want) {
        String got = textOf(court, edition);
        dueTrue(call + ": edition " + edition + " reads " + want + " (it reads " + got + ")", got.equals(want));
    }

    void end() {
        String of = sentences > 0 ? sentences + " sentences, " : "";
        System.out.println(test + ": " + of + asked + " answers, " + wrong + " wrong");
        if (wrong != 0) {
            System.exit(1);
        }
    }
}
