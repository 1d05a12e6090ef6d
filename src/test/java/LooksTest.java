/** Promises 17 to 24: edition, gap, ruling, whyNot, best, ways, count, length. */
public final class LooksTest {
    private static final Check check = new Check("LooksTest");

    public static void main(String[] args) {
        edition();
        gap();
        ruling();
        whyNot();
        best();
        bestOfSeveral();
        ways();
        count();
        cheapest();
        length();
        looksChangeNothing();
        check.end();
    }

    /** Two editions, three rulings that count, one that does not. */
    private static CommaCourt courtOfRulings() {
        CommaCourt court = Check.courtWith("ab,cab", "abab");
        court.rule(0, 1, true, 9, -1);
        court.rule(0, 1, true, 4, 0);
        court.rule(1, 2, false, 5, 0);
        court.rule(2, 0, true, 20, -1);
        return court;
    }

    private static void edition() {
        CommaCourt court = courtOfRulings();
        court.stay(0, 3);
        // Clauses 1+2 = 3 and 3+1+2 = 6; gaps: ab asked 4, bc forbidden 5, ca asked 20, ab asked 4.
        int[] told = {5, 2, 2, 9, 5 + 2, 33, 40, 1, 3, 0};
        for (int what = 0; what < told.length; what++) {
            check.due("edition(0, " + what + ")", court.edition(0, what), told[what]);
        }
        check.due("edition(1, 4)", court.edition(1, 4), 2);
        check.due("edition(1, 5)", court.edition(1, 5), 8);
        check.due("edition(1, 6)", court.edition(1, 6), 10);
        check.due("edition(1, 7)", court.edition(1, 7), 0);
        court.set(0, 3);
        // 6 in one clause: 3; 4 and 2: 1 + 1; and 4 less in fines.
        check.due("sue(1, 2)", court.sue(1, 2), 10 + 1 + 4);
        check.due("edition(1, 9)", court.edition(1, 9), 1);
        check.due("edition(0, -1)", court.edition(0, -1), Check.INVALID);
        check.due("edition(0, 10)", court.edition(0, 10), Check.INVALID);
        check.due("edition(0, MIN)", court.edition(0, Check.MIN), Check.INVALID);
        check.due("edition(-1, 0)", court.edition(-1, 0), Check.INVALID);
        check.due("edition(2, 0)", court.edition(2, 0), Check.INVALID);
        check.due("edition(MAX, 0)", court.edition(Check.MAX, 0), Check.INVALID);
        CommaCourt balanced = Check.courtWith("bf", "fbbbf");
        check.due("weighs just as much", balanced.edition(0, 4), 0);
        check.due("heavier", balanced.edition(1, 4), 10);
    }

    private static void gap() {
        CommaCourt court = courtOfRulings();
        int[] commas = {0, 1, 0, 0};
        int[] rulings = {1, 2, 3, 1};
        int[] fines = {4, 5, 20, 4};
        // Clauses with a gap moved: a|b|cab 7+6+2, abcab 1, ab|c|ab 5+5+5, ab|ca|b 5+4+6, each ahead of 7.
        int[] more = {8 - 4, -6 - 5, 8 - 20, 8 - 4};
        for (int gap = 0; gap < 4; gap++) {
            check.due("gap(0, " + gap + ", 0)", court.gap(0, gap, 0), commas[gap]);
            check.due("gap(0, " + gap + ", 1)", court.gap(0, gap, 1), rulings[gap]);
            check.due("gap(0, " + gap + ", 2)", court.gap(0, gap, 2), fines[gap]);
            check.due("gap(0, " + gap + ", 3)", court.gap(0, gap, 3), 1000 + more[gap]);
        }
        check.due("without a ruling", court.gap(1, 1, 1), Check.NOT_FOUND);
        check.due("without a fine", court.gap(1, 1, 2), 0);
        court.overrule(1);
        check.due("the earlier one counts again", court.gap(0, 0, 1), 0);
        check.due("with its fine", court.gap(0, 0, 2), 9);
        int[][] wrong = {{-1, 0, 0}, {2, 0, 0}, {0, -1, 0}, {0, 4, 0}, {1, 3, 0}, {0, 0, -1}, {0, 0, 4},
            {Check.MAX, 0, 0}, {0, Check.MIN, 0}, {0, Check.MAX, 1}, {0, 0, Check.MIN}, {0, 32, 0}};
        for (int[] row : wrong) {
            check.due("gap(" + row[0] + ", " + row[1] + ", " + row[2] + ")",
                    court.gap(row[0], row[1], row[2]), Check.INVALID);
        }
        CommaCourt one = Check.courtWith("a");
        check.due("one word has no gap", one.gap(0, 0, 0), Check.INVALID);
    }

    private static void ruling() {
        CommaCourt court = courtOfRulings();
        int[][] told = {{0, 1, 1, 9, Check.NOT_FOUND, 1, 0, 2, 0}, {0, 1, 1, 4, 0, 1, 1, 0, 16},
            {1, 2, 0, 5, 0, 1, 1, 0, 5}, {2, 0, 1, 20, Check.NOT_FOUND, 1, 1, 0, 20}};
        for (int ruling = 0; ruling < told.length; ruling++) {
            for (int what = 0; what < 9; what++) {
                check.due("ruling(" + ruling + ", " + what + ")", court.ruling(ruling, what), told[ruling][what]);
            }
        }
        court.overrule(0);
        for (int ruling = 0; ruling < 3; ruling++) {
            check.due("ruling(" + ruling + ", 5) fallen", court.ruling(ruling, 5), 0);
            check.due("ruling(" + ruling + ", 6) fallen", court.ruling(ruling, 6), 0);
            check.due("ruling(" + ruling + ", 8) fallen", court.ruling(ruling, 8), 0);
        }
        check.due("citations stay", court.ruling(0, 7), 2);
        int[][] wrong = {{-1, 0}, {4, 0}, {0, -1}, {0, 9}, {Check.MIN, 0}, {Check.MAX, 0}, {0, Check.MIN},
            {0, Check.MAX}};
        for (int[] pair : wrong) {
            check.due("ruling(" + pair[0] + ", " + pair[1] + ")", court.ruling(pair[0], pair[1]), Check.INVALID);
        }
    }

    private static void whyNot() {
        CommaCourt court = Check.courtWith("fff", "f,ff");
        check.due("whyNot(0, 0)", court.whyNot(0, 0), 3);
        check.due("whyNot(0, 1)", court.whyNot(0, 1), 0);
        check.due("whyNot(1, 0)", court.whyNot(1, 0), 2);
        court.stay(0, 1);
        check.due("whyNot(0, 0) stayed", court.whyNot(0, 0), 1);
        court.day();
        check.due("whyNot(0, 0) a day on", court.whyNot(0, 0), 3);
        check.due("nothing is counted", court.count(8), 0);
        check.due("nothing is changed", court.count(14), 4);
        int[][] wrong = {{-1, 0}, {2, 0}, {0, -1}, {0, 2}, {Check.MIN, 0}, {Check.MAX, 0}, {0, Check.MIN},
            {0, Check.MAX}};
        for (int[] pair : wrong) {
            check.due("whyNot(" + pair[0] + ", " + pair[1] + ")", court.whyNot(pair[0], pair[1]), Check.INVALID);
        }
    }

    private static void dueBest(CommaCourt court, int edition, int set, int cost, int commas) {
        for (int way = 0; way < 2; way++) {
            check.due("best(" + edition + ", 0, " + way + ")", court.best(edition, 0, way), set);
            check.due("best(" + edition + ", 1, " + way + ")", court.best(edition, 1, way), cost);
            check.due("best(" + edition + ", 2, " + way + ")", court.best(edition, 2, way), commas);
        }
    }

    private static void best() {
        // fff: 10 without, 2+4 with one, 2+2+2 with two: one comma, the lower gap.
        CommaCourt court = Check.courtWith("fff", "f", "f,ff", "aaaa");
        dueBest(court, 0, 1, 6, 1);
        dueBest(court, 1, 0, 2, 0);
        dueBest(court, 2, 1, 6, 1);
        dueBest(court, 3, 0, 4, 0);
        court.rule(5, 5, true, 20, -1);
        dueBest(court, 0, 3, 6, 2);
        court.rule(5, 5, false, 20, -1);
        dueBest(court, 0, 0, 10, 0);
        court.stay(0, 9);
        dueBest(court, 0, 0, 10, 0);
        int[][] wrong = {{-1, 0, 0}, {4, 0, 0}, {0, -1, 0}, {0, 3, 0}, {0, 0, -1}, {0, 0, 2},
            {Check.MIN, 0, 0}, {0, Check.MAX, 0}, {0, 0, Check.MIN}, {0, 3, 1}};
        for (int[] row : wrong) {
            check.due("best(" + row[0] + ", " + row[1] + ", " + row[2] + ")",
                    court.best(row[0], row[1], row[2]), Check.INVALID);
        }
    }

    private static void bestOfSeveral() {
        // Twelve words of weight 1 and balance 1: a comma in every gap costs nothing.
        CommaCourt court = Check.courtWith("aaaaaaaaaaaa", "aaaaaa", "bcbc");
        court.set(0, 1);
        dueBest(court, 0, 2047, 0, 11);
        // Balance 30: each clause costs 30 and takes its weight off, so that no comma is best.
        court.set(0, 30);
        dueBest(court, 0, 0, 18, 0);
        court.set(0, 3);
        // Six words in clauses of three: one comma, in the gap 2.
        dueBest(court, 1, 4, 0, 1);
        // 2 3 2 3 with balance 3: b|c|b|c 1+0+1+0 = 2, bc|bc 2+2, b|c|bc 1+0+2.
        dueBest(court, 2, 7, 2, 3);
        court.set(0, 4);
        // 2+3 = 5, 1+1 = 2 with one comma in the gap 1.
        dueBest(court, 2, 2, 2, 1);
    }

    private static void dueWays(CommaCourt court, int edition, int ways) {
        check.due("ways(" + edition + ", 0)", court.ways(edition, 0), ways);
        check.due("ways(" + edition + ", 1)", court.ways(edition, 1), ways);
    }

    private static void ways() {
        CommaCourt court = Check.courtWith("a", "fff", "bf,f", "aaaaaaaaaaaa");
        dueWays(court, 0, 1);
        // 6 6 6, at most 15: all but the one clause of 18.
        dueWays(court, 1, 3);
        dueWays(court, 2, 4);
        dueWays(court, 3, 2048);
        court.set(1, 12);
        dueWays(court, 1, 3);
        dueWays(court, 2, 3);
        court.set(1, 11);
        dueWays(court, 1, 1);
        dueWays(court, 2, 2);
        // Twelve words that all weigh 1: only the one clause of them all is over 11.
        dueWays(court, 3, 2047);
        court.set(1, 9);
        court.weight(0, 9);
        dueWays(court, 0, 1);
        dueWays(court, 3, 1);
        for (int wrong : new int[] {-1, 4, Check.MIN, Check.MAX}) {
            check.due("ways(" + wrong + ", 0)", court.ways(wrong, 0), Check.INVALID);
        }
        for (int wrong : new int[] {-1, 2, Check.MIN, Check.MAX}) {
            check.due("ways(0, " + wrong + ")", court.ways(0, wrong), Check.INVALID);
        }
    }

    private static void count() {
        CommaCourt court = courtOfRulings();
        court.sue(0, 1);
        court.sue(0, 1);
        court.day();
        court.stay(1, 2);
        court.overrule(1);
        Check.type(court, "xyz");
        court.set(0, 9);
        court.set(1, 16);
        // Edition 0 is abcab: no comma, weight 9; gaps ab 9, bc 0, ca 20, ab 9. Edition 1: 3 and 9+9.
        int[] told = {1, 2, 1, 38 + 21, 4, 3, 3, 1, 1, 0, 9, 16, 1, 3, 4};
        for (int what = 0; what < told.length; what++) {
            check.due("count(" + what + ")", court.count(what), told[what]);
        }
        for (int wrong : new int[] {-1, 15, Check.MIN, Check.MAX}) {
            check.due("count(" + wrong + ")", court.count(wrong), Check.INVALID);
        }
        check.due("commas of all", Check.courtWith("a,b,c", "d", "e,f").count(9), 3);
    }

    private static void cheapest() {
        CommaCourt court = Check.courtWith("a", "f", "cc", "bf");
        check.due("count(12)", court.count(12), 3);
        court.drop(3);
        check.due("the lowest of several", court.count(12), 1);
        court.drop(1);
        check.due("count(12)", court.count(12), 1);
        court.drop(1);
        check.due("count(12)", court.count(12), 0);
        court.drop(0);
        check.due("none", court.count(12), Check.NOT_FOUND);
    }

    private static void length() {
        CommaCourt court = Check.courtWith("abc");
        check.dueDouble("one clause", court.length(), 3.0);
        Check.type(court, "a,b");
        court.print();
        check.dueDouble("three clauses", court.length(), 5.0 / 3.0);
        Check.type(court, "a,b,c,d,e,f,a,b,c,d,e,f");
        court.print();
        check.dueDouble("fifteen clauses", court.length(), 17.0 / 15.0);
        court.drop(0);
        court.drop(0);
        check.dueDouble("clauses of one word", court.length(), 1.0);
        court.drop(0);
        check.dueDouble("no editions", court.length(), 0.0);
    }

    private static void looksChangeNothing() {
        CommaCourt court = courtOfRulings();
        Check.type(court, "a,");
        for (int what = 0; what < 15; what++) {
            court.count(what);
            court.edition(0, what);
            court.gap(0, 0, what);
            court.ruling(0, what);
            court.best(0, what, 0);
            court.best(0, what, 1);
            court.ways(0, what);
            court.sign(0, what);
            court.whyNot(0, what);
            court.why(what);
            court.fault(what);
        }
        court.length();
        court.ifRuled(0, 1, true, 9);
        court.bestSuit(0);
        check.dueText("looks", court, 0, "ab,cab");
        check.due("the pad stays", court.count(13), 2);
        check.due("suits", court.count(7) + court.count(8), 0);
        check.due("rulings", court.count(4), 4);
        check.due("the latest change is rule()", court.undo(), 3);
        check.due("rulings", court.count(4), 3);
    }
}
