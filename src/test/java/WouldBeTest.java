/** Promises 25 and 26: ifRuled, bestSuit. */
public final class WouldBeTest {
    private static final Check check = new Check("WouldBeTest");

    public static void main(String[] args) {
        ifRuled();
        ifRuledAsRuled();
        bestSuit();
        bestSuitOfSeveral();
        check.end();
    }

    private static void ifRuled() {
        CommaCourt court = new CommaCourt();
        check.due("without editions", court.ifRuled(0, 1, true, 20), 1000);
        court = Check.courtWith("ab,ab", "a,b", "ba");
        check.due("asks in two gaps in vain", court.ifRuled(0, 1, true, 20), 1040);
        check.due("forbids one", court.ifRuled(0, 1, false, 3), 1003);
        check.due("the other way round", court.ifRuled(1, 0, true, 7), 1007);
        check.due("no such words", court.ifRuled(4, 4, true, 7), 1000);
        court.rule(0, 1, true, 10, -1);
        check.due("in place of what counts: less", court.ifRuled(0, 1, false, 3), 1000 - 20 + 3);
        check.due("in place of what counts: more", court.ifRuled(0, 1, true, 11), 1002);
        check.due("nothing is ruled", court.count(4), 1);
        check.due("nothing is changed", court.edition(0, 5), 20);
        int[][] wrong = {{-1, 0, 1}, {6, 0, 1}, {0, -1, 1}, {0, 6, 1}, {0, 0, 0}, {0, 0, 21},
            {Check.MIN, 0, 1}, {0, Check.MAX, 1}, {0, 0, Check.MIN}, {0, 0, Check.MAX}};
        for (int[] row : wrong) {
            check.due("ifRuled(" + row[0] + ", " + row[1] + ", true, " + row[2] + ")",
                    court.ifRuled(row[0], row[1], true, row[2]), Check.INVALID);
        }
    }

    private static void ifRuledAsRuled() {
        CommaCourt court = Check.courtWith("aab,aa,b", "aaaa", "a,a,a");
        court.rule(0, 0, false, 2, -1);
        int before = court.count(3);
        int told = court.ifRuled(0, 0, true, 13);
        court.rule(0, 0, true, 13, -1);
        check.due("what the ruling brings", court.count(3) - before + 1000, told);
        court.overrule(1);
        check.due("cost as before", court.count(3), before);
    }

    private static void bestSuit() {
        CommaCourt court = Check.courtWith("fff", "a");
        check.due("the lowest of several", court.bestSuit(0), 0);
        check.due("no gap", court.bestSuit(1), Check.NOT_FOUND);
        Check.type(court, "f,ff");
        court.print();
        check.due("the lowest is taken", court.bestSuit(0), 1);
        check.due("none helps", court.bestSuit(2), Check.NOT_FOUND);
        court.stay(0, 1);
        check.due("stayed", court.bestSuit(0), Check.NOT_FOUND);
        check.due("nothing is counted", court.count(8), 0);
        for (int wrong : new int[] {-1, 3, Check.MIN, Check.MAX}) {
            check.due("bestSuit(" + wrong + ")", court.bestSuit(wrong), Check.INVALID);
        }
    }

    private static void bestSuitOfSeveral() {
        // 6 2 6 2 6 = 22: cost 14. Moved: 6|16 2+8, 8|14 0+6, 14|8 6+0, 16|6 8+2.
        CommaCourt court = Check.courtWith("fbfbf");
        check.due("the least cost, of two the lower", court.bestSuit(0), 1);
        court.rule(5, 1, false, 1, -1);
        check.due("with a fine for f b", court.bestSuit(0), 1);
        court.rule(1, 5, false, 1, -1);
        court.rule(5, 1, true, 1, 1);
        // f b asks in the gaps 0 and 2, b f forbids in the gaps 1 and 3.
        check.due("gap 2 then", court.bestSuit(0), 2);
        check.due("sue(0, 2)", court.sue(0, 2), 10 + 8 + 1);
        check.due("gap 0 or 1: 14|8, then 6|8|8 or 8|6|8", court.bestSuit(0), 0);
        Check.type(court, "f,bf,bf");
        court.print();
        check.due("taken, the next best", court.bestSuit(0), 1);
    }
}
