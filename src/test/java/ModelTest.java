/** Many runs of calls, each asked of the class and of the model of the document alike. */
public final class ModelTest {
    private static final int RUNS = 2000;
    /** The document speaks of 512 calls alone; a text takes 65 at most, the account at the end 241. */
    private static final int CALLS = 512, TEXT = 65, ACCOUNT = 241;
    private static final int[] ODD = {Integer.MIN_VALUE, -5, -4, -2, -1, 61, 127, Integer.MAX_VALUE};
    private static final String[] EDITIONS = {"a", "f", "ab", "a,b", "fff", "ff,f", "f,ff", "abc", "ab,c",
        "fbfbf", "abab,ab", "abcdef", "a,b,c,d,e,f", "abcdefabcdef", "aabbccddeeff", "fe,dc,ba,fe,dc,ba",
        "abcdefabcdefa", "abcdefabcdef,", "a,,b", ",a", "a,", "ag"};
    private static final String[] PARTS = {"+", "0:0", "0:1", "0:2", "1:0", "1:1", "2:0", "2:3", "3:1", "0:10",
        "1:4", "3:", "4:0", "0:05", "1:11", "", "++"};

    private final Check check = new Check("ModelTest");
    private long seed = 20261119;
    private CommaCourt court;
    private Model model;

    public static void main(String[] args) {
        ModelTest test = new ModelTest();
        for (int run = 0; run < RUNS; run++) {
            test.run(run);
        }
        test.check.end();
    }

    /** A number from 0, below a bound, always the same row of them. */
    private int next(int bound) {
        seed = seed * 6364136223846793005L + 1442695040888963407L;
        return (int) ((seed >>> 33) % bound);
    }

    /** Mostly in its range or just beside it, seldom far away. */
    private int number(int least, int most) {
        if (next(30) == 0) {
            return ODD[next(ODD.length)];
        }
        if (next(20) == 0) {
            return next(2) == 0 ? least - 1 : most + 1;
        }
        return least + next(most - least + 1);
    }

    private void run(int run) {
        court = new CommaCourt();
        model = new Model();
        boolean isToldAtEnd = run % 2 == 0;
        int end = CALLS - TEXT - (isToldAtEnd ? ACCOUNT : 0);
        int before = check.asked();
        for (int call = 0; call < end; call = check.asked() - before) {
            if (next(10) == 0) {
                type(text());
            } else {
                call(run + ":" + call);
            }
        }
        if (isToldAtEnd) {
            dueAll(run + ": at the end");
        }
    }

    private String text() {
        if (next(2) == 0) {
            return EDITIONS[next(EDITIONS.length)];
        }
        if (next(3) == 0) {
            return randomEdition();
        }
        StringBuilder text = new StringBuilder(PARTS[next(PARTS.length)]);
        for (int more = next(6); more > 0; more--) {
            text.append(';').append(PARTS[next(next(2) == 0 ? PARTS.length : 10)]);
        }
        return text.toString();
    }

    private String randomEdition() {
        StringBuilder text = new StringBuilder();
        int words = 1 + next(12);
        for (int word = 0; word < words; word++) {
            text.append((char) ('a' + next(6)));
            if (word < words - 1 && next(3) == 0) {
                text.append(',');
            }
        }
        return text.toString();
    }

    /** Types a text, mostly on an empty pad, and often reads it at once. */
    private void type(String text) {
        if (next(8) != 0) {
            check.due("clear", court.clear(), model.clear());
        }
        for (char sign : text.toCharArray()) {
            check.due("append", court.append(sign), model.append(sign));
        }
        check.due("fault(0) of " + text, court.fault(0), model.fault(0));
        check.due("fault(1) of " + text, court.fault(1), model.fault(1));
        if (next(4) != 0) {
            check.due("print of " + text, court.print(), model.print());
            check.due("plead of " + text, court.plead(), model.plead());
        }
    }

    private void call(String name) {
        int kind = next(41);
        if (kind < 20) {
            change(kind, name);
        } else {
            look(kind, name);
        }
    }

    private void change(int kind, String name) {
        int a = number(0, 3);
        int b = number(0, 11);
        int c = number(0, 5);
        int d = number(0, 5);
        int fine = number(1, 20);
        int cites = number(-1, 9);
        int ruling = number(0, 9);
        boolean comma = next(2) == 0;
        switch (kind) {
            case 0 -> check.due(name + " weight", court.weight(c, fine), model.weight(c, fine));
            case 1 -> check.due(name + " set", court.set(a, fine), model.set(a, fine));
            case 2 -> check.due(name + " set", court.set(0, b), model.set(0, b));
            case 3, 4 -> check.due(name + " rule", court.rule(c, d, comma, fine, -1), model.rule(c, d, comma, fine, -1));
            case 5 -> check.due(name + " rule", court.rule(c, d, comma, fine, cites), model.rule(c, d, comma, fine, cites));
            case 6 -> check.due(name + " overrule", court.overrule(ruling), model.overrule(ruling));
            case 7 -> check.due(name + " drop", court.drop(a), model.drop(a));
            case 8, 9, 10, 11 -> check.due(name + " sue", court.sue(a, b), model.sue(a, b));
            case 12 -> check.due(name + " stay", court.stay(a, b - 3), model.stay(a, b - 3));
            case 13 -> check.due(name + " stay", court.stay(a, fine + 12), model.stay(a, fine + 12));
            case 14, 15 -> check.due(name + " day", court.day(), model.day());
            case 16 -> check.due(name + " append", court.append(fine + 30), model.append(fine + 30));
            case 17, 18 -> check.due(name + " undo", court.undo(), model.undo());
            default -> {
                check.due(name + " save", next(3) == 0 ? court.save() == model.save() ? 1 : 0 : 1, 1);
                check.due(name + " restore", next(3) == 0 ? court.restore() == model.restore() ? 1 : 0 : 1, 1);
            }
        }
    }

    private void look(int kind, String name) {
        int edition = number(0, 3);
        int gap = number(0, 10);
        int what = number(0, 14);
        int few = number(0, 3);
        int c = number(0, 5);
        int d = number(0, 5);
        int fine = number(1, 20);
        int ruling = number(0, 9);
        int way = number(0, 1);
        boolean comma = next(2) == 0;
        switch (kind) {
            case 20 -> check.due(name + " fault", court.fault(way), model.fault(way));
            case 21, 22 -> check.due(name + " why", court.why(few), model.why(few));
            case 23, 24 -> check.due(name + " sign", court.sign(edition, what), model.sign(edition, what));
            case 25, 26, 27 -> check.due(name + " edition", court.edition(edition, what), model.edition(edition, what));
            case 28, 29 -> check.due(name + " gap", court.gap(edition, gap, few), model.gap(edition, gap, few));
            case 30, 31 -> check.due(name + " ruling", court.ruling(ruling, what), model.ruling(ruling, what));
            case 32 -> check.due(name + " whyNot", court.whyNot(edition, gap), model.whyNot(edition, gap));
            case 33 -> dueBest(name, edition, few);
            case 34 -> dueWays(name, edition);
            case 35, 36 -> check.due(name + " count", court.count(what), model.count(what));
            case 37 -> check.dueDouble(name + " length", court.length(), model.length());
            case 38 -> check.due(name + " ifRuled", court.ifRuled(c, d, comma, fine), model.ifRuled(c, d, comma, fine));
            case 39 -> check.due(name + " bestSuit", court.bestSuit(edition), model.bestSuit(edition));
            default -> dueWrong(name, edition, few, way);
        }
    }

    private void dueBest(String name, int edition, int what) {
        int want = model.best(edition, what, 0);
        check.due(name + " best by all sets", court.best(edition, what, 0), want);
        check.due(name + " best by words", court.best(edition, what, 1), want);
    }

    private void dueWays(String name, int edition) {
        int want = model.ways(edition, 0);
        check.due(name + " ways by words", court.ways(edition, 0), want);
        check.due(name + " ways by clauses", court.ways(edition, 1), want);
    }

    private void dueWrong(String name, int edition, int what, int way) {
        if (way < 0 || way > 1) {
            check.due(name + " best", court.best(edition, what, way), model.best(edition, what, way));
            check.due(name + " ways", court.ways(edition, way), model.ways(edition, way));
        }
    }

    private void dueAll(String name) {
        for (int what = 0; what < 15; what++) {
            check.due(name + " count " + what, court.count(what), model.count(what));
        }
        for (int edition = 0; edition < 4; edition++) {
            for (int what = 0; what < 10; what++) {
                check.due(name + " edition " + what, court.edition(edition, what), model.edition(edition, what));
            }
            for (int place = 0; place < 24; place++) {
                check.due(name + " sign " + place, court.sign(edition, place), model.sign(edition, place));
            }
        }
        for (int ruling = 0; ruling < 10; ruling++) {
            for (int what = 0; what < 9; what++) {
                check.due(name + " ruling " + what, court.ruling(ruling, what), model.ruling(ruling, what));
            }
        }
    }
}
