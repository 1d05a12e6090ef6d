/** Promises 27 to 29: undo, save, restore. */
public final class HistoryTest {
    private static final Check check = new Check("HistoryTest");

    public static void main(String[] args) {
        undoOfEveryChange();
        undoForgetsOldest();
        undoOfNothing();
        undoOfRefused();
        save();
        restore();
        restoreIsAChange();
        otherRulingsInBetween();
        check.end();
    }

    /** All that a court tells but the pad, the history and why(). */
    static String accountOf(CommaCourt court) {
        StringBuilder account = new StringBuilder();
        for (int what = 0; what < 13; what++) {
            account.append(court.count(what)).append(' ');
        }
        for (int edition = 0; edition < court.count(1); edition++) {
            account.append(Check.textOf(court, edition));
            for (int what = 0; what < 10; what++) {
                account.append(' ').append(court.edition(edition, what));
            }
        }
        for (int ruling = 0; ruling < court.count(4); ruling++) {
            account.append('/');
            for (int what = 0; what < 9; what++) {
                account.append(' ').append(court.ruling(ruling, what));
            }
        }
        return account.toString();
    }

    private static CommaCourt busyCourt() {
        CommaCourt court = Check.courtWith("fff", "ab,c", "ff,f");
        court.rule(5, 5, true, 3, -1);
        court.rule(5, 5, true, 4, 0);
        court.rule(0, 1, true, 4, 1);
        court.stay(1, 3);
        court.day();
        court.sue(0, 0);
        court.sue(0, 0);
        return court;
    }

    private static void change(CommaCourt court, int number) {
        switch (number) {
            case 0 -> court.weight(5, 1);
            case 1 -> court.set(0, 20);
            case 2 -> court.set(1, 20);
            case 3 -> court.rule(1, 1, false, 9, 2);
            case 4 -> court.overrule(0);
            case 5 -> {
                Check.type(court, "a,b");
                court.print();
            }
            case 6 -> court.drop(0);
            case 7 -> court.sue(0, 1);
            case 8 -> court.sue(1, 0);
            case 9 -> court.stay(0, 4);
            case 10 -> court.day();
            case 11 -> {
                Check.type(court, "+;0:1;1:1");
                court.plead();
            }
            case 12 -> court.stay(2, 0);
            default -> court.restore();
        }
    }

    private static void undoOfEveryChange() {
        for (int number = 0; number < 14; number++) {
            CommaCourt court = busyCourt();
            court.save();
            court.day();
            String before = accountOf(court);
            change(court, number);
            check.dueTrue("change " + number + " changes something", !accountOf(court).equals(before));
            check.due("states behind change " + number, court.count(14), 4);
            check.due("undo of change " + number, court.undo(), 3);
            check.dueTrue("change " + number + " is undone", accountOf(court).equals(before));
        }
        for (int kind = 0; kind < 6; kind++) {
            CommaCourt court = new CommaCourt();
            court.weight(kind, 9);
            court.undo();
            check.due("a weight is undone", court.weight(kind, 8), kind + 1);
        }
    }

    private static void undoForgetsOldest() {
        CommaCourt court = new CommaCourt();
        for (int value = 1; value <= 6; value++) {
            court.set(0, value);
            check.due("states", court.count(14), Math.min(value, 4));
        }
        for (int left = 3; left >= 0; left--) {
            check.due("undo()", court.undo(), left);
            check.due("balance", court.count(10), left + 2);
        }
        check.due("undo() of a fifth", court.undo(), Check.NOT_POSSIBLE);
        check.due("balance stays", court.count(10), 2);
        court.set(0, 30);
        check.due("a new change", court.undo(), 0);
        check.due("balance", court.count(10), 2);
        for (int value = 11; value <= 16; value++) {
            court.set(0, value);
        }
        court.undo();
        court.undo();
        court.set(0, 21);
        check.due("states mixed", court.count(14), 3);
        court.undo();
        check.due("balance mixed", court.count(10), 14);
        court.undo();
        check.due("balance mixed", court.count(10), 13);
        court.undo();
        check.due("balance mixed", court.count(10), 12);
        check.due("no more", court.undo(), Check.NOT_POSSIBLE);
    }

    private static void undoOfNothing() {
        CommaCourt court = new CommaCourt();
        court.weight(0, 1);
        court.set(0, 8);
        check.due("changes that change nothing are changes", court.count(14), 2);
        check.due("undo()", court.undo(), 1);
        check.due("undo()", court.undo(), 0);
        check.due("undo()", court.undo(), Check.NOT_POSSIBLE);
        Check.type(court, "ab");
        court.day();
        court.append('c');
        court.save();
        court.undo();
        check.due("the pad stays", court.count(13), 3);
        check.due("no change is left", court.count(14), 0);
        check.due("the snapshot stays", court.restore(), 0);
        check.due("it is of day 1", court.count(0), 1);
    }

    private static void undoOfRefused() {
        CommaCourt court = Check.courtWith("ff");
        check.due("refused", court.sue(0, 0), 2);
        check.due("counted", court.count(8), 1);
        check.due("undo()", court.undo(), 1);
        check.due("not counted any more", court.count(8), 0);
    }

    private static void save() {
        CommaCourt court = new CommaCourt();
        check.due("save() of nothing", court.save(), 0);
        check.due("is no change", court.count(14), 0);
        Check.type(court, "ab");
        court.print();
        check.due("save()", court.save(), 1);
        Check.type(court, "cd");
        court.print();
        court.drop(0);
        court.day();
        check.due("the latest snapshot", court.restore(), 1);
        check.dueText("restore()", court, 0, "ab");
        check.due("day", court.count(0), 0);
        court.day();
        court.save();
        court.undo();
        court.undo();
        court.restore();
        check.due("in place of the one that was", court.count(0), 1);
    }

    private static void restore() {
        CommaCourt none = busyCourt();
        check.due("without a snapshot", none.restore(), Check.NOT_POSSIBLE);
        for (int number = 0; number < 13; number++) {
            restoreBehind(number);
        }
        CommaCourt court = busyCourt();
        court.save();
        check.due("restore()", court.restore(), 3);
        check.due("restore() again", court.restore(), 3);
        court.weight(4, 9);
        court.restore();
        check.due("a weight is restored", court.weight(4, 5), 5);
    }

    private static void restoreBehind(int number) {
        CommaCourt court = busyCourt();
        court.save();
        String saved = accountOf(court);
        change(court, number);
        check.dueTrue("different behind change " + number, !accountOf(court).equals(saved));
        court.append('a');
        int pad = court.count(13);
        check.due("restore()", court.restore(), 3);
        check.dueTrue("restored behind change " + number, accountOf(court).equals(saved));
        check.due("the pad stays", court.count(13), pad);
    }

    private static void restoreIsAChange() {
        CommaCourt court = Check.courtWith("ab");
        court.save();
        court.drop(0);
        check.due("states", court.count(14), 2);
        check.due("restore()", court.restore(), 1);
        check.due("the history is not restored", court.count(14), 3);
        check.due("undo()", court.undo(), 2);
        check.due("no edition", court.count(1), 0);
        check.due("undo()", court.undo(), 1);
        check.due("an edition", court.count(1), 1);
        check.due("undo()", court.undo(), 0);
        check.due("the snapshot stays", court.restore(), 1);
        court.sue(0, 0);
        court.stay(0, 9);
        court.weight(1, 9);
        court.restore();
        check.due("and is not changed by what comes", court.edition(0, 8), 0);
        check.due("weight", court.edition(0, 3), 3);
    }

    private static void otherRulingsInBetween() {
        CommaCourt court = Check.courtWith("fb");
        court.save();
        court.rule(5, 1, true, 13, -1);
        court.overrule(0);
        court.restore();
        check.due("no ruling is left", court.count(4), 0);
        check.due("another 0", court.rule(1, 5, false, 2, -1), 0);
        check.due("that is not overruled", court.ruling(0, 5), 1);
        check.due("a 1 that cites it", court.rule(5, 1, true, 13, 0), 1);
        court.save();
        String saved = accountOf(court);
        court.undo();
        court.undo();
        check.due("a third 0", court.rule(5, 5, true, 7, -1), 0);
        check.due("a 1 that cites none", court.rule(3, 4, false, 8, -1), 1);
        String then = accountOf(court);
        court.restore();
        check.dueTrue("the rulings that were", accountOf(court).equals(saved));
        court.undo();
        check.dueTrue("the rulings that came", accountOf(court).equals(then));
    }
}
