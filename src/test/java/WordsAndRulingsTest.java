/** Promises 1 to 5: a new object, weight, set, rule, overrule. */
public final class WordsAndRulingsTest {
    private static final Check check = new Check("WordsAndRulingsTest");

    public static void main(String[] args) {
        newObject();
        weight();
        set();
        rule();
        rulesWhenFull();
        overrule();
        latestRulingCounts();
        check.end();
    }

    private static void newObject() {
        CommaCourt court = new CommaCourt();
        int[] counts = {0, 0, 0, 0, 0, 0, 0, 0, 0, 0, 8, 15, Check.NOT_FOUND, 0, 0};
        for (int what = 0; what < counts.length; what++) {
            check.due("new: count(" + what + ")", court.count(what), counts[what]);
        }
        check.dueDouble("new: length()", court.length(), 0.0);
        check.due("new: edition(0, 0)", court.edition(0, 0), Check.INVALID);
        check.due("new: ruling(0, 0)", court.ruling(0, 0), Check.INVALID);
        check.due("new: undo()", court.undo(), Check.NOT_POSSIBLE);
        check.due("new: restore()", court.restore(), Check.NOT_POSSIBLE);
        check.due("new: why(0)", court.why(0), Check.NOT_FOUND);
        check.due("new: fault(0)", court.fault(0), 0);
        for (int kind = 0; kind < 6; kind++) {
            check.due("new: weight of " + kind, court.weight(kind, 9), kind + 1);
        }
        CommaCourt other = new CommaCourt();
        check.due("courts share nothing", other.weight(0, 1), 1);
    }

    private static void weight() {
        CommaCourt court = Check.courtWith("abc");
        check.due("weight(0, 9)", court.weight(0, 9), 1);
        check.due("weight(0, 1)", court.weight(0, 1), 9);
        check.due("weight(2, 7)", court.weight(2, 7), 3);
        check.due("edition(0, 3) behind it", court.edition(0, 3), 10);
        check.due("edition(0, 4) behind it", court.edition(0, 4), 2);
        check.due("weight(2, 7) again is a change", court.weight(2, 7), 7);
        check.due("count(14)", court.count(14), 4);
        int states = Check.courtWith("abc").count(14);
        CommaCourt still = Check.courtWith("abc");
        int[][] wrong = {{-1, 5}, {6, 5}, {0, 0}, {0, 10}, {5, -1}, {Check.MIN, 1}, {Check.MAX, 1},
            {0, Check.MIN}, {0, Check.MAX}};
        for (int[] pair : wrong) {
            check.due("weight(" + pair[0] + ", " + pair[1] + ")", still.weight(pair[0], pair[1]), Check.INVALID);
        }
        check.due("errors are no changes", still.count(14), states);
        check.due("errors change no weight", still.edition(0, 3), 6);
        check.due("weight(5, 1)", still.weight(5, 1), 6);
        check.due("weight(5, 9)", still.weight(5, 9), 1);
    }

    private static void set() {
        CommaCourt court = Check.courtWith("f");
        check.due("set(0, 1)", court.set(0, 1), 8);
        check.due("cost with balance 1", court.edition(0, 6), 5);
        check.due("set(0, 30)", court.set(0, 30), 1);
        check.due("cost with balance 30", court.edition(0, 6), 24);
        check.due("set(0, 30) again", court.set(0, 30), 30);
        check.due("set(1, 9)", court.set(1, 9), 15);
        check.due("set(1, 60)", court.set(1, 60), 9);
        check.due("count(10)", court.count(10), 30);
        check.due("count(11)", court.count(11), 60);
        int[][] wrong = {{0, 0}, {0, 31}, {1, 8}, {1, 61}, {-1, 10}, {2, 10}, {Check.MIN, 10},
            {Check.MAX, 10}, {0, Check.MIN}, {1, Check.MAX}};
        for (int[] pair : wrong) {
            check.due("set(" + pair[0] + ", " + pair[1] + ")", court.set(pair[0], pair[1]), Check.INVALID);
        }
        check.due("count(10) behind errors", court.count(10), 30);
        check.due("count(11) behind errors", court.count(11), 60);
        check.due("errors are no changes", court.undo(), 3);
        check.due("count(11) behind undo", court.count(11), 9);
        check.due("CommaCourt.BALANCE", CommaCourt.BALANCE, 0);
        check.due("CommaCourt.HEAVY", CommaCourt.HEAVY, 1);
    }

    private static void rule() {
        CommaCourt court = new CommaCourt();
        check.due("rule cites itself", court.rule(0, 0, true, 1, 0), Check.INVALID);
        check.due("rule 0", court.rule(0, 5, true, 1, -1), 0);
        check.due("rule 1", court.rule(5, 0, false, 20, 0), 1);
        check.due("rule 2", court.rule(3, 3, true, 7, 0), 2);
        int[][] wrong = {{-1, 0, 1, -1}, {6, 0, 1, -1}, {0, -1, 1, -1}, {0, 6, 1, -1}, {0, 0, 0, -1},
            {0, 0, 21, -1}, {0, 0, 1, -2}, {0, 0, 1, 3}, {0, 0, 1, Check.MAX}, {0, 0, 1, Check.MIN},
            {Check.MIN, 0, 1, -1}, {0, Check.MAX, 1, -1}, {0, 0, Check.MIN, -1}};
        for (int[] r : wrong) {
            check.due("rule(" + r[0] + ", " + r[1] + ", true, " + r[2] + ", " + r[3] + ")",
                    court.rule(r[0], r[1], true, r[2], r[3]), Check.INVALID);
        }
        check.due("errors make no ruling", court.count(4), 3);
        check.due("errors are no changes", court.count(14), 3);
        int[][] told = {{0, 5, 1, 1, Check.NOT_FOUND, 1, 1, 2, 0}, {5, 0, 0, 20, 0, 1, 1, 0, 0},
            {3, 3, 1, 7, 0, 1, 1, 0, 0}};
        for (int ruling = 0; ruling < 3; ruling++) {
            for (int what = 0; what < 9; what++) {
                check.due("ruling(" + ruling + ", " + what + ")", court.ruling(ruling, what), told[ruling][what]);
            }
        }
    }

    private static void rulesWhenFull() {
        CommaCourt court = new CommaCourt();
        for (int number = 0; number < 10; number++) {
            check.due("rule " + number, court.rule(number % 6, 0, false, 20, number - 1), number);
        }
        check.due("rule 10", court.rule(0, 0, true, 1, -1), Check.LIMIT);
        check.due("rule 10 cites 9", court.rule(0, 0, true, 1, 9), Check.LIMIT);
        check.due("rule 10 cites 10", court.rule(0, 0, true, 1, 10), Check.INVALID);
        check.due("rule 10 with fine 0", court.rule(0, 0, true, 0, -1), Check.INVALID);
        check.due("ifRuled with 10 rulings", court.ifRuled(0, 0, true, 1), 1000);
        check.due("all are in force", court.count(5), 10);
        check.due("the latest about each pair count", court.count(6), 6);
        check.due("all fall", court.overrule(0), 10);
        check.due("a ruling never goes", court.rule(0, 0, true, 1, -1), Check.LIMIT);
        court.undo();
        court.undo();
        check.due("undone, there is room", court.rule(1, 1, true, 3, 8), 9);
    }

    private static void overrule() {
        CommaCourt court = new CommaCourt();
        check.due("overrule(0) without rulings", court.overrule(0), Check.INVALID);
        court.rule(0, 0, true, 1, -1);
        court.rule(0, 1, true, 1, 0);
        court.rule(0, 2, true, 1, 1);
        court.rule(0, 3, true, 1, 0);
        court.rule(0, 4, true, 1, -1);
        check.due("overrule(-1)", court.overrule(-1), Check.INVALID);
        check.due("overrule(5)", court.overrule(5), Check.INVALID);
        check.due("overrule(MIN)", court.overrule(Check.MIN), Check.INVALID);
        check.due("overrule(MAX)", court.overrule(Check.MAX), Check.INVALID);
        check.due("overrule(1) takes 2 along", court.overrule(1), 2);
        check.due("ruling(0, 5)", court.ruling(0, 5), 1);
        check.due("ruling(1, 5)", court.ruling(1, 5), 0);
        check.due("ruling(2, 5)", court.ruling(2, 5), 0);
        check.due("ruling(3, 5)", court.ruling(3, 5), 1);
        check.due("overrule(1) again", court.overrule(1), Check.NOT_POSSIBLE);
        check.due("overrule(2), that has fallen", court.overrule(2), 0);
        check.due("overrule(2) again", court.overrule(2), Check.NOT_POSSIBLE);
        check.due("overrule(0) takes 3 along", court.overrule(0), 2);
        check.due("only 4 is left", court.count(5), 1);
        check.due("an overruled one can be cited", court.rule(0, 5, true, 1, 3), 5);
        check.due("but what cites it is not in force", court.ruling(5, 5), 0);
        check.due("nor counts", court.ruling(5, 6), 0);
        check.due("it is not overruled itself", court.overrule(5), 0);
        check.due("citations of 0", court.ruling(0, 7), 2);
        check.due("citations of 3", court.ruling(3, 7), 1);
        check.due("rulings stay", court.count(4), 6);
        check.due("undo", court.undo(), 3);
        check.due("undone, 5 can be overruled", court.overrule(5), 0);
    }

    private static void latestRulingCounts() {
        CommaCourt court = Check.courtWith("ab,ab");
        court.rule(0, 1, true, 5, -1);
        check.due("two gaps ask in vain", court.edition(0, 5), 10);
        court.rule(0, 1, false, 7, -1);
        check.due("the latest is kept", court.edition(0, 5), 0);
        court.rule(1, 0, false, 7, -1);
        check.due("the other way round is another pair", court.edition(0, 5), 7);
        check.due("gap(0, 1, 1)", court.gap(0, 1, 1), 2);
        check.due("gap(0, 0, 1)", court.gap(0, 0, 1), 1);
        check.due("0 is in force", court.ruling(0, 5), 1);
        check.due("0 does not count", court.ruling(0, 6), 0);
        check.due("count(6)", court.count(6), 2);
        check.due("overrule(1)", court.overrule(1), 1);
        check.due("0 counts again", court.ruling(0, 6), 1);
        check.due("fines then", court.edition(0, 5), 17);
    }
}
