/** Compares the answers of a court with those that are due, and counts the wrong ones. */
final class Check {
    static final int INVALID = -1, NOT_POSSIBLE = -2, LIMIT = -3, NOT_FOUND = -4;
    static final int MIN = Integer.MIN_VALUE, MAX = Integer.MAX_VALUE;

    private final String test;
    private int wrong;
    private int asked;

    Check(String test) {
        this.test = test;
    }

    void due(String call, long got, long want) {
        asked++;
        if (got != want) {
            wrong++;
            System.out.println(test + ": " + call + " answered " + got + ", due is " + want);
        }
    }

    void dueDouble(String call, double got, double want) {
        asked++;
        if (got != want) {
            wrong++;
            System.out.println(test + ": " + call + " answered " + got + ", due is " + want);
        }
    }

    void dueTrue(String what, boolean holds) {
        asked++;
        if (!holds) {
            wrong++;
            System.out.println(test + ": " + what + " does not hold");
        }
    }

    /** Puts a text on the pad, in place of what was there. */
    static void type(CommaCourt court, String text) {
        court.clear();
        for (int place = 0; place < text.length(); place++) {
            court.append(text.charAt(place));
        }
    }

    /** A court with these editions. */
    static CommaCourt courtWith(String... editions) {
        CommaCourt court = new CommaCourt();
        for (String edition : editions) {
            type(court, edition);
            court.print();
        }
        return court;
    }

    static String textOf(CommaCourt court, int edition) {
        StringBuilder text = new StringBuilder();
        for (int place = 0; court.sign(edition, place) > 0; place++) {
            text.append((char) court.sign(edition, place));
        }
        return text.toString();
    }

    void dueText(String call, CommaCourt court, int edition, String want) {
        String got = textOf(court, edition);
        dueTrue(call + ": edition " + edition + " reads " + want + " (it reads " + got + ")", got.equals(want));
    }

    void end() {
        System.out.println(test + ": " + asked + " answers, " + wrong + " wrong");
        if (wrong != 0) {
            System.exit(1);
        }
    }
}
