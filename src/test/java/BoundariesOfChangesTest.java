import java.util.LinkedHashMap;
import java.util.Map;
import java.util.function.Supplier;
import java.util.function.ToIntFunction;

/** The sentences of the 'Terms' about changes and errors. */
public final class BoundariesOfChangesTest {
    private static final Check check = new Check("BoundariesOfChangesTest");

    public static void main(String[] args) {
        check.runAll(BoundariesOfChangesTest.class);
        check.end();
    }

    /** Two states in the history. */
    private static CommaCourt young() {
        CommaCourt court = Check.courtWith("ab");
        court.rule(0, 1, true, 1, -1);
        court.save();
        return court;
    }

    private static CommaCourt youngWithPad(String pad) {
        CommaCourt court = young();
        Check.type(court, pad);
        return court;
    }

    @Says("the changes are the calls of weight, set, rule, overrule, print, drop, sue, stay, day, plead and restore")
    private static void changes() {
        Map<String, ToIntFunction<CommaCourt>> changes = new LinkedHashMap<>();
        changes.put("weight", court -> court.weight(0, 9));
        changes.put("set", court -> court.set(0, 9));
        changes.put("rule", court -> court.rule(1, 1, true, 1, -1));
        changes.put("overrule", court -> court.overrule(0));
        changes.put("drop", court -> court.drop(0));
        changes.put("sue", court -> court.sue(0, 0));
        changes.put("stay", court -> court.stay(0, 1));
        changes.put("day", court -> court.day());
        changes.put("restore", court -> court.restore());
        changes.forEach((name, change) -> dueOneState(name, young(), change));
        dueOneState("print", youngWithPad("cd"), court -> court.print());
        dueOneState("plead", youngWithPad("+;0:0;+"), court -> court.plead());
    }

    private static void dueOneState(String name, CommaCourt court, ToIntFunction<CommaCourt> change) {
        change.applyAsInt(court);
        check.due("states behind " + name, court.count(14), 3);
        check.due("undo() of " + name, court.undo(), 2);
    }

    @Says("the other calls are no changes")
    private static void noChanges() {
        CommaCourt court = youngWithPad("ab");
        court.append('c');
        court.fault(0);
        court.why(0);
        court.sign(0, 0);
        court.edition(0, 0);
        court.gap(0, 0, 0);
        court.ruling(0, 0);
        court.whyNot(0, 0);
        court.best(0, 0, 0);
        court.ways(0, 0);
        court.count(0);
        court.length();
        court.ifRuled(0, 0, true, 1);
        court.bestSuit(0);
        court.save();
        court.clear();
        check.due("states", court.count(14), 2);
        check.due("undo() takes the ruling", court.undo(), 1);
        check.due("rulings", court.count(4), 0);
        check.due("nor is undo() one", court.count(14), 1);
    }

    @Says("what is refused for a reason is one, too (it is counted)")
    private static void refusedIsAChange() {
        CommaCourt court = young();
        court.overrule(0);
        check.due("refused", court.sue(0, 0), 2);
        check.due("a state", court.count(14), 4);
        check.due("counted", court.count(8), 1);
        check.due("undone", court.undo(), 3);
        check.due("not counted", court.count(8), 0);
        Check.type(court, "0:0");
        check.due("refused in a pad", court.plead(), 0);
        check.due("a state", court.count(14), 4);
        check.due("counted", court.count(8), 1);
    }

    @Says("each change records everything before it (also if nothing is different then)")
    private static void nothingIsDifferent() {
        CommaCourt court = new CommaCourt();
        check.due("weight()", court.weight(2, 3), 3);
        check.due("states", court.count(14), 1);
        check.due("set()", court.set(1, 15), 15);
        check.due("states", court.count(14), 2);
        court.save();
        check.due("restore()", court.restore(), 0);
        check.due("states", court.count(14), 3);
        Check.type(court, "0:0");
        check.due("plead()", court.plead(), 0);
        check.due("states", court.count(14), 4);
        CommaCourt other = Check.courtWith("a");
        check.due("stay()", other.stay(0, 0), 0);
        check.due("states", other.count(14), 2);
    }

    @Says("each change records everything before it but the pad, the snapshot and why()")
    private static void notRecorded() {
        CommaCourt court = Check.courtWith("ab");
        court.day();
        Check.type(court, "0:9");
        court.plead();
        Check.type(court, "xyz");
        court.save();
        court.undo();
        court.undo();
        court.undo();
        check.due("the pad", court.count(13), 3);
        check.due("why()", court.why(0), Check.INVALID);
        check.due("the snapshot", court.restore(), 1);
        check.due("with its day", court.count(0), 1);
    }

    @Says("a history of at most 4 states is kept, if there are 5 states then, the oldest one is dropped")
    private static void fourStates() {
        for (int days = 0; days <= 9; days++) {
            CommaCourt court = new CommaCourt();
            for (int day = 0; day < days; day++) {
                court.day();
            }
            int states = Math.min(days, 4);
            check.due("states", court.count(14), states);
            for (int left = states - 1; left >= 0; left--) {
                check.due("undo()", court.undo(), left);
            }
            check.due("one more undo()", court.undo(), Check.NOT_POSSIBLE);
            check.due("the oldest day that is kept", court.count(0), days - states);
        }
    }

    @Says("INVALID_ARGUMENT is returned rather than LIMIT_REACHED")
    private static void invalidAheadOfLimit() {
        Twins twins = new Twins(check, Courts::full);
        twins.dueRefused("rule()", Check.LIMIT, court -> court.rule(0, 0, true, 1, -1));
        twins.dueRefused("rule() about -1", Check.INVALID, court -> court.rule(-1, 0, true, 1, -1));
        twins.dueRefused("rule() about 6", Check.INVALID, court -> court.rule(0, 6, true, 1, -1));
        twins.dueRefused("rule() with 21", Check.INVALID, court -> court.rule(0, 0, true, 21, -1));
        twins.dueRefused("rule() citing 10", Check.INVALID, court -> court.rule(0, 0, true, 1, 10));
        twins.dueRefused("append()", Check.LIMIT, court -> court.append('+'));
        twins.dueRefused("append(32)", Check.INVALID, court -> court.append(32));
        twins.dueRefused("append(127)", Check.INVALID, court -> court.append(127));
    }

    @Says("NOT_POSSIBLE rather than LIMIT_REACHED")
    private static void notPossibleAheadOfLimit() {
        String[] pads = {"b", "", "a,b", "a,", "g", "abcdefabcdefa"};
        int[] errors = {Check.LIMIT, Check.NOT_POSSIBLE, Check.NOT_POSSIBLE, Check.NOT_POSSIBLE,
            Check.NOT_POSSIBLE, Check.NOT_POSSIBLE};
        for (int pad = 0; pad < pads.length; pad++) {
            String text = pads[pad];
            Supplier<CommaCourt> maker = () -> {
                CommaCourt court = Courts.full();
                Check.type(court, text);
                return court;
            };
            new Twins(check, maker).dueRefused("print() of " + text, errors[pad], court -> court.print());
        }
    }

    @Says("INVALID_ARGUMENT is returned rather than NOT_FOUND")
    private static void invalidAheadOfNotFound() {
        CommaCourt court = youngWithPad("+");
        check.due("a pad without a fault", court.fault(1), Check.NOT_FOUND);
        check.due("fault(2)", court.fault(2), Check.INVALID);
        check.due("why() of no stop", court.why(2), Check.NOT_FOUND);
        check.due("why(3) of no stop", court.why(3), Check.INVALID);
        check.due("why(-1) of no stop", court.why(-1), Check.INVALID);
        check.due("sign() behind the end", court.sign(0, 99), Check.NOT_FOUND);
        check.due("sign() of no edition", court.sign(1, 99), Check.INVALID);
        court.overrule(0);
        check.due("gap() without a ruling", court.gap(0, 0, 1), Check.NOT_FOUND);
        check.due("gap() of no gap", court.gap(0, 1, 1), Check.INVALID);
        check.due("ruling() that cites none", court.ruling(0, 4), Check.NOT_FOUND);
        check.due("ruling() of no ruling", court.ruling(1, 4), Check.INVALID);
        check.due("bestSuit() of none that helps", court.bestSuit(0), Check.NOT_FOUND);
        check.due("bestSuit() of no edition", court.bestSuit(1), Check.INVALID);
        check.due("count(12) without editions", new CommaCourt().count(12), Check.NOT_FOUND);
        check.due("count(15) without editions", new CommaCourt().count(15), Check.INVALID);
    }

    @Says("errors are looked at ahead of reasons")
    private static void errorsAheadOfReasons() {
        Supplier<CommaCourt> maker = () -> {
            CommaCourt court = Check.courtWith("ab", "a");
            court.stay(0, 9);
            court.stay(1, 9);
            return court;
        };
        Twins twins = new Twins(check, maker);
        check.due("stayed", maker.get().sue(0, 0), 1);
        for (int gap : new int[] {-1, 1, Check.MIN, Check.MAX}) {
            twins.dueRefused("sue() for " + gap, Check.INVALID, court -> court.sue(0, gap));
            twins.dueRefused("whyNot() for " + gap, Check.INVALID, court -> court.whyNot(0, gap));
        }
        twins.dueRefused("sue() about one word", Check.INVALID, court -> court.sue(1, 0));
        twins.dueRefused("sue() about no edition", Check.INVALID, court -> court.sue(2, 0));
    }

    @Says("if there is no edition of a certain number, this is INVALID_ARGUMENT")
    private static void noSuchEdition() {
        Twins twins = new Twins(check, Courts::busy);
        twins.dueWithin("drop", 0, 2, (court, number) -> court.drop(number));
        twins.dueWithin("sue", 0, 2, (court, number) -> court.sue(number, 0));
        twins.dueWithin("stay", 0, 2, (court, number) -> court.stay(number, 1));
        twins.dueWithin("sign", 0, 2, (court, number) -> court.sign(number, 0));
        twins.dueWithin("edition", 0, 2, (court, number) -> court.edition(number, 0));
        twins.dueWithin("gap", 0, 2, (court, number) -> court.gap(number, 0, 0));
        twins.dueWithin("whyNot", 0, 2, (court, number) -> court.whyNot(number, 0));
        twins.dueWithin("best", 0, 2, (court, number) -> court.best(number, 0, 0));
        twins.dueWithin("ways", 0, 2, (court, number) -> court.ways(number, 0));
        twins.dueWithin("bestSuit", 0, 2, (court, number) -> court.bestSuit(number));
    }

    @Says("without editions there is none of the number 0")
    private static void noEditionAtAll() {
        dueNoEdition(new CommaCourt());
        CommaCourt court = Check.courtWith("abc");
        court.drop(0);
        dueNoEdition(court);
        CommaCourt undone = Check.courtWith("abc");
        undone.undo();
        dueNoEdition(undone);
    }

    private static void dueNoEdition(CommaCourt court) {
        check.due("drop", court.drop(0), Check.INVALID);
        check.due("sue", court.sue(0, 0), Check.INVALID);
        check.due("stay", court.stay(0, 0), Check.INVALID);
        check.due("sign", court.sign(0, 0), Check.INVALID);
        check.due("edition", court.edition(0, 0), Check.INVALID);
        check.due("gap", court.gap(0, 0, 0), Check.INVALID);
        check.due("whyNot", court.whyNot(0, 0), Check.INVALID);
        check.due("best", court.best(0, 0, 0), Check.INVALID);
        check.due("ways", court.ways(0, 0), Check.INVALID);
        check.due("bestSuit", court.bestSuit(0), Check.INVALID);
    }

    @Says("if there is no gap of a certain number, this is INVALID_ARGUMENT")
    private static void noSuchGap() {
        Twins three = new Twins(check, Courts::busy);
        three.dueWithin("sue", 0, 1, (court, gap) -> court.sue(0, gap));
        three.dueWithin("gap", 0, 1, (court, gap) -> court.gap(0, gap, 0));
        three.dueWithin("whyNot", 0, 1, (court, gap) -> court.whyNot(0, gap));
        Twins twelve = new Twins(check, Courts::withTwelveWords);
        twelve.dueWithin("sue", 0, 10, (court, gap) -> court.sue(0, gap));
        twelve.dueWithin("gap", 0, 10, (court, gap) -> court.gap(0, gap, 0));
        twelve.dueWithin("whyNot", 0, 10, (court, gap) -> court.whyNot(0, gap));
    }

    @Says("an edition of one word has no gap")
    private static void noGapAtAll() {
        CommaCourt court = Check.courtWith("a");
        for (int gap = -1; gap <= 1; gap++) {
            check.due("sue", court.sue(0, gap), Check.INVALID);
            check.due("gap", court.gap(0, gap, 0), Check.INVALID);
            check.due("whyNot", court.whyNot(0, gap), Check.INVALID);
        }
    }

    @Says("if there is no ruling of a certain number, this is INVALID_ARGUMENT")
    private static void noSuchRuling() {
        Twins three = new Twins(check, Courts::busy);
        three.dueWithin("ruling", 0, 2, (court, number) -> court.ruling(number, 0));
        three.dueWithin("rule, cites", -1, 2, (court, number) -> court.rule(0, 0, true, 1, number));
        three.dueWithin("overrule", 0, 2, CommaCourt::overrule);
        Twins none = new Twins(check, CommaCourt::new);
        none.dueRefused("ruling 0 of none", Check.INVALID, court -> court.ruling(0, 0));
        none.dueRefused("overrule 0 of none", Check.INVALID, court -> court.overrule(0));
        none.dueRefused("rule, cites 0 of none", Check.INVALID, court -> court.rule(0, 0, true, 1, 0));
    }

    @Says("a call that returns an error changes nothing (the pad stays, too)")
    private static void errorsChangeNothing() {
        Twins busy = new Twins(check, Courts::busy);
        busy.dueRefused("weight", Check.INVALID, court -> court.weight(0, 10));
        busy.dueRefused("set", Check.INVALID, court -> court.set(0, 31));
        busy.dueRefused("rule", Check.INVALID, court -> court.rule(0, 0, false, 0, -1));
        busy.dueRefused("overrule of one that is", Check.NOT_POSSIBLE, court -> court.overrule(1));
        busy.dueRefused("plead of an edition", Check.NOT_POSSIBLE, court -> court.plead());
        new Twins(check, Courts::pleading).dueRefused("print of suits", Check.NOT_POSSIBLE, court -> court.print());
        Twins twin = new Twins(check, () -> youngWithPad("ab"));
        twin.dueRefused("print of one that is there", Check.NOT_POSSIBLE, court -> court.print());
        Twins none = new Twins(check, () -> Courts.withPad("ab"));
        none.dueRefused("undo of nothing", Check.NOT_POSSIBLE, court -> court.undo());
        none.dueRefused("restore of nothing", Check.NOT_POSSIBLE, court -> court.restore());
    }
}
