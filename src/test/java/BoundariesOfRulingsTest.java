/** The boundaries in the promises 1 to 5: a new object, weight, set, rule, overrule. */
public final class BoundariesOfRulingsTest {
    private static final Check check = new Check("BoundariesOfRulingsTest");
    private static final Twins busy = new Twins(check, Courts::busy);

    public static void main(String[] args) {
        check.runAll(BoundariesOfRulingsTest.class);
        check.end();
    }

    @Says("1: creates a court without editions and rulings, on the day 0")
    private static void newCourt() {
        CommaCourt court = new CommaCourt();
        check.due("the day", court.count(0), 0);
        check.due("editions", court.count(1), 0);
        check.due("rulings", court.count(4), 0);
        check.due("the first edition's looks", court.edition(0, 0), Check.INVALID);
        check.due("the first ruling's looks", court.ruling(0, 0), Check.INVALID);
    }

    @Says("1: with an empty pad, an empty history, no snapshot and no suit at which plead() stopped")
    private static void newCourtIsEmpty() {
        CommaCourt court = new CommaCourt();
        check.due("clear()", court.clear(), 0);
        check.due("states", court.count(14), 0);
        check.due("undo()", court.undo(), Check.NOT_POSSIBLE);
        check.due("restore()", court.restore(), Check.NOT_POSSIBLE);
        check.due("why()", court.why(0), Check.NOT_FOUND);
        check.due("granted", court.count(7), 0);
        check.due("refused", court.count(8), 0);
    }

    @Says("1: a court knows nothing of another")
    private static void newCourtIsAlone() {
        CommaCourt full = Courts.full();
        full.save();
        full.weight(0, 9);
        check.dueTrue("a new one is as ever", Twins.looks(new CommaCourt()).equals(
                " pad 0 0 why -4 -4 -4 counts 0 0 0 0 0 0 0 0 0 0 8 15 -4 0 0"));
        check.due("weight(0, 1)", new CommaCourt().weight(0, 1), 1);
        check.due("restore()", new CommaCourt().restore(), Check.NOT_POSSIBLE);
    }

    @Says("2: kind: 0 to 5")
    private static void kindOfWeight() {
        busy.dueWithin("kind", 0, 5, (court, kind) -> court.weight(kind, 4));
    }

    @Says("2: weight: 1 to 9")
    private static void weightOfWeight() {
        busy.dueWithin("weight of 0", 1, 9, (court, weight) -> court.weight(0, weight));
        busy.dueWithin("weight of 5", 1, 9, (court, weight) -> court.weight(5, weight));
    }

    @Says("2: returns the weight before")
    private static void weightBefore() {
        CommaCourt court = new CommaCourt();
        for (int kind = 0; kind < 6; kind++) {
            check.due("at first", court.weight(kind, 9), kind + 1);
            check.due("the greatest", court.weight(kind, 1), 9);
            check.due("the least", court.weight(kind, 1), 1);
            check.due("the same again", court.weight(kind, kind + 1), 1);
        }
    }

    @Says("2: changes the weight of a kind (of that alone)")
    private static void weightOfOneKind() {
        CommaCourt court = Check.courtWith("abcdef", "aaaaaaaaaaaa");
        court.weight(0, 9);
        check.due("8 more", court.edition(0, 3), 29);
        check.due("twelve of 9", court.edition(1, 3), 108);
        court.weight(5, 1);
        check.due("5 less", court.edition(0, 3), 24);
        check.due("twelve of 9 still", court.edition(1, 3), 108);
    }

    @Says("3: what: 0 or 1")
    private static void whatOfSet() {
        busy.dueWithin("what", 0, 1, (court, what) -> court.set(what, 9));
    }

    @Says("3: value: a value in its range (not in the other one's)")
    private static void valueOfSet() {
        busy.dueWithin("BALANCE", 1, 30, (court, value) -> court.set(0, value));
        busy.dueWithin("HEAVY", 9, 60, (court, value) -> court.set(1, value));
        busy.dueRefused("set(0, 60)", Check.INVALID, court -> court.set(0, 60));
        busy.dueRefused("set(1, 1)", Check.INVALID, court -> court.set(1, 1));
    }

    @Says("3: returns the value before")
    private static void valueBefore() {
        CommaCourt court = new CommaCourt();
        check.due("BALANCE at first", court.set(0, 30), 8);
        check.due("HEAVY at first", court.set(1, 60), 15);
        check.due("BALANCE", court.set(0, 1), 30);
        check.due("HEAVY", court.set(1, 9), 60);
        check.due("BALANCE again", court.set(0, 1), 1);
        check.due("HEAVY again", court.set(1, 9), 9);
    }

    @Says("4: first: 0 to 5")
    private static void firstOfRule() {
        busy.dueWithin("first", 0, 5, (court, first) -> court.rule(first, 0, true, 1, -1));
    }

    @Says("4: second: 0 to 5")
    private static void secondOfRule() {
        busy.dueWithin("second", 0, 5, (court, second) -> court.rule(0, second, true, 1, -1));
    }

    @Says("4: fine: 1 to 20")
    private static void fineOfRule() {
        busy.dueWithin("fine", 1, 20, (court, fine) -> court.rule(0, 0, true, fine, -1));
        busy.dueWithin("fine", 1, 20, (court, fine) -> court.rule(0, 0, false, fine, 2));
    }

    @Says("4: cites: the ruling that it cites; -1: none")
    private static void citesOfRule() {
        busy.dueWithin("cites", -1, 2, (court, cites) -> court.rule(0, 0, true, 1, cites));
        new Twins(check, CommaCourt::new)
                .dueWithin("cites", -1, -1, (court, cites) -> court.rule(0, 0, true, 1, cites));
    }

    @Says("4: an overruled ruling can be cited, but then the ruling is not in force")
    private static void citesOverruled() {
        CommaCourt court = new CommaCourt();
        court.rule(0, 0, true, 1, -1);
        court.overrule(0);
        check.due("cites an overruled one", court.rule(0, 0, true, 1, 0), 1);
        check.due("in force", court.ruling(1, 5), 0);
        check.due("cites one that is not in force", court.rule(0, 0, true, 1, 1), 2);
        check.due("in force", court.ruling(2, 5), 0);
        check.due("overrules none by that", court.overrule(2), 0);
    }

    @Says("4: returns its number; LIMIT_REACHED if there are 10")
    private static void numberOfRule() {
        CommaCourt court = new CommaCourt();
        for (int number = 0; number < 10; number++) {
            check.due("rule()", court.rule(5, 5, number % 2 == 0, 20, number - 1), number);
        }
        check.due("rule() of an eleventh", court.rule(5, 5, true, 20, -1), Check.LIMIT);
        court.undo();
        check.due("rule() of a tenth again", court.rule(5, 5, true, 20, -1), 9);
        check.due("rule() of an eleventh again", court.rule(5, 5, true, 20, 9), Check.LIMIT);
    }

    @Says("5: ruling: its number")
    private static void numberOfOverrule() {
        Twins full = new Twins(check, Courts::full);
        full.dueWithin("overrule", 0, 9, CommaCourt::overrule);
        new Twins(check, CommaCourt::new).dueRefused("overrule(0)", Check.INVALID, court -> court.overrule(0));
    }

    @Says("5: returns how many rulings are not in force any more by that")
    private static void fallenByOverrule() {
        for (int number = 0; number < 10; number++) {
            check.due("of a chain of ten", Courts.full().overrule(number), 10 - number);
        }
        CommaCourt court = Courts.full();
        check.due("the last of them", court.overrule(9), 1);
        check.due("the first of them", court.overrule(0), 9);
        check.due("one that has fallen already", court.overrule(5), 0);
    }

    @Says("5: NOT_POSSIBLE if it is overruled already")
    private static void overruledAlready() {
        busy.dueRefused("overrule(1) again", Check.NOT_POSSIBLE, court -> court.overrule(1));
        CommaCourt court = Courts.full();
        court.overrule(0);
        check.due("overrule(0) again", court.overrule(0), Check.NOT_POSSIBLE);
        check.due("one that is not in force, but not overruled", court.overrule(1), 0);
        check.due("overrule(1) again", court.overrule(1), Check.NOT_POSSIBLE);
    }
}
