import java.util.ArrayDeque;
import java.util.Deque;
import java.util.List;
import java.util.function.Consumer;

/** The boundaries in the promises 27 to 29: undo, save, restore. */
public final class BoundariesOfHistoryTest {
    private static final Check check = new Check("BoundariesOfHistoryTest");

    public static void main(String[] args) {
        check.runAll(BoundariesOfHistoryTest.class);
        check.end();
    }

    /** One change of each kind, the refused suit and the changes that change nothing too. */
    private static final List<Consumer<CommaCourt>> CHANGES = List.of(
            court -> court.weight(0, 9), court -> court.weight(5, 1), court -> court.weight(2, 3),
            court -> court.set(0, 1), court -> court.set(1, 60), court -> court.rule(5, 5, false, 20, -1),
            court -> court.rule(0, 1, true, 20, 0), court -> court.overrule(0), court -> court.overrule(2),
            court -> court.print(), court -> court.drop(0), court -> court.drop(1), court -> court.drop(2),
            court -> court.sue(0, 0), court -> court.sue(0, 1), court -> court.sue(1, 0),
            court -> court.stay(0, 30), court -> court.stay(1, 0), court -> court.day(),
            court -> pleading(court, "+;0:1;1:0;+"), court -> pleading(court, "3:0"), court -> court.restore());

    private static void pleading(CommaCourt court, String suits) {
        Check.type(court, suits);
        court.plead();
    }

    private static String accountOf(CommaCourt court) {
        return HistoryTest.accountOf(court);
    }

    private static String weightsOf(CommaCourt court) {
        StringBuilder told = new StringBuilder();
        for (int kind = 0; kind < 6; kind++) {
            told.append(court.weight(kind, 1));
        }
        return told.toString();
    }

    @Says("27: everything but the pad, the snapshot and why() is as it was before it")
    private static void undoOfEachChange() {
        for (int number = 0; number < CHANGES.size(); number++) {
            CommaCourt court = Courts.busy();
            CHANGES.get(number).accept(court);
            check.due("undo() of change " + number, court.undo(), 3);
            CommaCourt before = Courts.busy();
            check.dueTrue("change " + number + " is undone", accountOf(court).equals(accountOf(before)));
            check.dueTrue("and its weights", weightsOf(court).equals(weightsOf(before)));
        }
    }

    @Says("27: undoes the latest change (one after the other, up to the oldest state)")
    private static void undoOfFour() {
        for (int first = 0; first + 4 <= CHANGES.size(); first++) {
            CommaCourt court = Courts.busy();
            undoAll(court);
            Deque<String> kept = new ArrayDeque<>();
            for (Consumer<CommaCourt> change : CHANGES.subList(first, first + 4)) {
                String before = briefOf(court);
                change.accept(court);
                if (court.count(14) > kept.size()) {
                    kept.push(before);
                }
            }
            while (!kept.isEmpty()) {
                String before = kept.pop();
                check.due("undo() of changes from " + first, court.undo(), kept.size());
                check.dueTrue("as it was before " + first, briefOf(court).equals(before));
            }
            check.due("none is left", court.undo(), Check.NOT_POSSIBLE);
        }
    }

    private static void undoAll(CommaCourt court) {
        while (court.count(14) > 0) {
            court.undo();
        }
    }

    /** So short that it can be asked for again and again within the calls of one object. */
    private static String briefOf(CommaCourt court) {
        StringBuilder told = new StringBuilder();
        for (int what = 0; what < 13; what++) {
            told.append(court.count(what)).append(' ');
        }
        for (int edition = 0; edition < court.count(1); edition++) {
            told.append(court.edition(edition, 1)).append(' ').append(court.edition(edition, 8)).append(' ');
        }
        return told.toString();
    }

    @Says("27: (of more changes than four the latest four are undone)")
    private static void undoOfLatestFour() {
        CommaCourt court = Courts.busy();
        String[] before = new String[6];
        for (int day = 0; day < 6; day++) {
            before[day] = briefOf(court);
            court.day();
            court.sue(0, 1);
        }
        check.due("undo() of sue()", court.undo(), 3);
        check.due("undo() of day()", court.undo(), 2);
        check.dueTrue("the sixth day", briefOf(court).equals(before[5]));
        check.due("undo() of sue()", court.undo(), 1);
        check.due("undo() of day()", court.undo(), 0);
        check.dueTrue("the fifth day", briefOf(court).equals(before[4]));
        check.due("undo() of nothing", court.undo(), Check.NOT_POSSIBLE);
        check.dueTrue("the fifth day still", briefOf(court).equals(before[4]));
    }

    @Says("27: the pad is not undone, emptied or filled")
    private static void undoLeavesPad() {
        CommaCourt court = Courts.withPad("ab");
        court.print();
        check.due("undo() of print()", court.undo(), 0);
        check.due("the pad is empty still", court.clear(), 0);
        Check.type(court, "+");
        court.plead();
        Check.type(court, "xyz");
        check.due("undo() of plead()", court.undo(), 0);
        check.due("the pad is full still", court.clear(), 3);
    }

    @Says("27: NOT_POSSIBLE if it has none")
    private static void undoOfNothing() {
        new Twins(check, CommaCourt::new).dueRefused("of a new court", Check.NOT_POSSIBLE, CommaCourt::undo);
        new Twins(check, () -> {
            CommaCourt court = Courts.busy();
            court.undo();
            court.undo();
            court.undo();
            court.undo();
            return court;
        }).dueRefused("of a fifth change", Check.NOT_POSSIBLE, CommaCourt::undo);
    }

    @Says("27: (there is room for four changes again behind undo())")
    private static void changesBehindUndo() {
        CommaCourt court = new CommaCourt();
        for (int day = 0; day < 4; day++) {
            court.day();
        }
        for (int undone = 0; undone <= 4; undone++) {
            for (int time = 0; time < undone; time++) {
                check.due("undo()", court.undo(), 3 - time);
            }
            for (int time = 0; time < undone; time++) {
                court.day();
                check.due("states", court.count(14), 5 - undone + time);
            }
            check.due("the day", court.count(0), 4);
        }
        check.due("the next change", court.day(), 5);
        check.due("states", court.count(14), 4);
    }

    @Says("28: returns how many editions there are")
    private static void editionsOfSave() {
        CommaCourt court = new CommaCourt();
        check.due("none", court.save(), 0);
        for (int edition = 0; edition < 4; edition++) {
            Check.type(court, "a".repeat(edition + 1));
            court.print();
            check.due("save()", court.save(), edition + 1);
        }
    }

    @Says("28: takes a snapshot of everything but the pad, the history and why()")
    private static void whatIsSaved() {
        new Twins(check, () -> {
            CommaCourt court = Courts.busy();
            court.save();
            return court;
        }).dueNothingChanged("save() once more", CommaCourt::save);
        for (int number = 0; number < CHANGES.size(); number++) {
            CommaCourt court = Courts.busy();
            court.save();
            CHANGES.get(number).accept(court);
            court.restore();
            CommaCourt saved = Courts.busy();
            check.dueTrue("change " + number + " is restored", accountOf(court).equals(accountOf(saved)));
            check.dueTrue("and its weights", weightsOf(court).equals(weightsOf(saved)));
        }
    }

    @Says("28: in place of the one that was")
    private static void saveInPlace() {
        CommaCourt court = new CommaCourt();
        court.day();
        court.save();
        court.day();
        court.save();
        court.day();
        check.due("restore()", court.restore(), 0);
        check.due("the latest snapshot's day", court.count(0), 2);
        court.undo();
        court.undo();
        court.undo();
        check.due("an earlier day", court.count(0), 1);
        court.save();
        court.day();
        court.day();
        court.restore();
        check.due("also if it is of an earlier day", court.count(0), 1);
    }

    @Says("29: restores the snapshot, which stays")
    private static void restoreStays() {
        CommaCourt court = Check.courtWith("fff");
        court.save();
        for (int time = 0; time < 3; time++) {
            court.sue(0, 0);
            court.drop(0);
            check.due("restore()", court.restore(), 1);
            check.due("commas", court.edition(0, 1), 0);
            check.due("granted", court.count(7), 0);
        }
        check.due("restore() at once again", court.restore(), 1);
    }

    @Says("29: returns how many editions there are then")
    private static void editionsOfRestore() {
        for (int editions = 0; editions <= 4; editions++) {
            CommaCourt court = new CommaCourt();
            for (int edition = 0; edition < editions; edition++) {
                Check.type(court, "a".repeat(edition + 1));
                court.print();
            }
            court.save();
            if (editions > 0) {
                court.drop(0);
            }
            Check.type(court, "bbb");
            court.print();
            check.due("restore()", court.restore(), editions);
            check.due("count(1)", court.count(1), editions);
        }
    }

    @Says("29: NOT_POSSIBLE if there is none (one of an empty court is one)")
    private static void restoreOfNone() {
        new Twins(check, CommaCourt::new).dueRefused("restore()", Check.NOT_POSSIBLE, CommaCourt::restore);
        CommaCourt court = new CommaCourt();
        court.save();
        check.due("of an empty court", court.restore(), 0);
        court.undo();
        check.due("undo() takes no snapshot away", court.restore(), 0);
    }

    @Says("29: is a change, that can be undone; the history is not restored")
    private static void restoreIsAChange() {
        CommaCourt court = new CommaCourt();
        court.save();
        court.day();
        court.day();
        check.due("restore()", court.restore(), 0);
        check.due("states", court.count(14), 3);
        check.due("the day", court.count(0), 0);
        check.due("undo() of restore()", court.undo(), 2);
        check.due("the day", court.count(0), 2);
        check.due("undo() of day()", court.undo(), 1);
        check.due("the day", court.count(0), 1);
    }

    @Says("29: the pad and why() are not restored")
    private static void restoreLeavesPadAndWhy() {
        CommaCourt court = Courts.withPad("ab");
        court.save();
        Check.type(court, "+;0:0");
        court.plead();
        Check.type(court, "xyz");
        court.restore();
        check.due("the pad", court.count(13), 3);
        check.due("why(1)", court.why(1), 1);
        check.due("the day", court.count(0), 0);
    }

    /** Four changes from a court without rulings: three rulings, of which the last is overruled. */
    private static void ruleSome(CommaCourt court) {
        court.rule(0, 1, true, 1, -1);
        court.rule(2, 3, true, 2, 0);
        court.rule(4, 4, false, 3, 1);
        court.overrule(2);
    }

    /** Four changes to rulings of the same numbers that differ in everything. */
    private static void ruleOthers(CommaCourt court) {
        court.rule(5, 4, false, 20, -1);
        court.overrule(0);
        court.rule(3, 2, false, 19, -1);
        court.rule(1, 1, true, 18, 0);
    }

    private static void undoFour(CommaCourt court) {
        for (int left = 3; left >= 0; left--) {
            check.due("undo()", court.undo(), left);
        }
        check.due("no ruling is left", court.count(4), 0);
    }

    @Says("27: (of rulings that are undone others of the same numbers keep nothing)")
    private static void rulesBehindUndo() {
        CommaCourt court = new CommaCourt();
        ruleOthers(court);
        undoFour(court);
        ruleSome(court);
        CommaCourt some = new CommaCourt();
        ruleSome(some);
        check.dueTrue("as if there had been none", accountOf(court).equals(accountOf(some)));
    }

    @Says("28: (a snapshot is not changed by rulings that come later with the same numbers)")
    private static void saveOfRulings() {
        CommaCourt court = new CommaCourt();
        ruleSome(court);
        String saved = accountOf(court);
        court.save();
        undoFour(court);
        ruleOthers(court);
        String others = accountOf(court);
        court.restore();
        check.dueTrue("the rulings that were saved", accountOf(court).equals(saved));
        check.due("0 can be overruled", court.overrule(0), 2);
        check.due("2 is overruled", court.overrule(2), Check.NOT_POSSIBLE);
        court.undo();
        court.undo();
        check.dueTrue("undo() of restore()", accountOf(court).equals(others));
        check.due("0 is overruled", court.overrule(0), Check.NOT_POSSIBLE);
        check.due("1 can be overruled", court.overrule(1), 1);
    }

    @Says("29: (a ruling that comes in the place of an overruled one is not overruled)")
    private static void ruleBehindRestore() {
        CommaCourt court = new CommaCourt();
        court.save();
        court.rule(0, 0, true, 1, -1);
        court.overrule(0);
        court.restore();
        check.due("rule()", court.rule(0, 0, true, 1, -1), 0);
        check.due("in force", court.ruling(0, 5), 1);
        check.due("overrule()", court.overrule(0), 1);
    }
}
