/** The boundaries in the promises 6 to 10: print, drop, sue, stay, day. */
public final class BoundariesOfEditionsTest {
    private static final Check check = new Check("BoundariesOfEditionsTest");
    private static final Twins busy = new Twins(check, Courts::busy);

    public static void main(String[] args) {
        check.runAll(BoundariesOfEditionsTest.class);
        check.end();
    }

    @Says("6: prints the edition of the pad, and empties the pad")
    private static void printOfPad() {
        String[] pads = {"a", "f", "a,f", "abcdefabcdef", "a,b,c,d,e,f,a,b,c,d,e,f"};
        for (String pad : pads) {
            CommaCourt court = Courts.withPad(pad);
            check.due("print() of " + pad, court.print(), 0);
            check.dueText("print() of " + pad, court, 0, pad);
            check.due("the pad is empty", court.clear(), 0);
        }
    }

    @Says("6: (an edition that is printed is not stayed, and has no suits, whatever its number had before)")
    private static void printBehindDrop() {
        CommaCourt court = Check.courtWith("ab,cdef");
        court.sue(0, 3);
        court.stay(0, 30);
        court.drop(0);
        Check.type(court, "a");
        court.print();
        check.dueText("print()", court, 0, "a");
        check.due("commas", court.edition(0, 1), 0);
        check.due("stayed", court.edition(0, 7), 0);
        check.due("until", court.edition(0, 8), 0);
        check.due("granted", court.edition(0, 9), 0);
    }

    @Says("6: NOT_POSSIBLE if the pad has a fault, read as an edition")
    private static void printOfFault() {
        String[] pads = {"", ",", "a,", ",a", "a,,b", "g", "ag", "aA", "a;b", "abcdefabcdefa", "abcdefabcdef,",
            "+", "0:1"};
        for (String pad : pads) {
            new Twins(check, () -> Courts.withPad(pad))
                    .dueRefused("print() of " + pad, Check.NOT_POSSIBLE, CommaCourt::print);
        }
    }

    @Says("6: NOT_POSSIBLE if there is an edition with the same words and commas")
    private static void printOfTwin() {
        String[] pads = {"fff", "ab,c", "f,ff"};
        for (String pad : pads) {
            Twins twins = new Twins(check, () -> {
                CommaCourt court = Check.courtWith("fff", "ab,c", "f,ff");
                Check.type(court, pad);
                return court;
            });
            twins.dueRefused("print() of " + pad, Check.NOT_POSSIBLE, CommaCourt::print);
        }
        CommaCourt court = Check.courtWith("fff");
        court.sue(0, 0);
        Check.type(court, "fff");
        check.due("the commas have moved since", court.print(), 1);
        Check.type(court, "f,ff");
        check.due("as they are now", court.print(), Check.NOT_POSSIBLE);
        court.drop(0);
        check.due("it is dropped", court.print(), 1);
    }

    @Says("6: LIMIT_REACHED if there are 4")
    private static void printOfFifth() {
        Twins twins = new Twins(check, () -> {
            CommaCourt court = Check.courtWith("a", "b", "c", "d");
            Check.type(court, "e");
            return court;
        });
        twins.dueRefused("print()", Check.LIMIT, CommaCourt::print);
        CommaCourt court = Check.courtWith("a", "b", "c");
        Check.type(court, "d");
        check.due("a fourth", court.print(), 3);
    }

    @Says("7: edition: its number")
    private static void numberOfDrop() {
        busy.dueWithin("drop", 0, 2, CommaCourt::drop);
        new Twins(check, Courts::full).dueWithin("drop", 0, 3, CommaCourt::drop);
    }

    @Says("7: returns how many are left")
    private static void leftByDrop() {
        CommaCourt court = Check.courtWith("a", "b", "c", "d");
        check.due("of four", court.drop(3), 3);
        check.due("of three", court.drop(0), 2);
        check.due("of two", court.drop(1), 1);
        check.dueText("the one that is left", court, 0, "b");
        check.due("of one", court.drop(0), 0);
        check.due("of none", court.drop(0), Check.INVALID);
    }

    @Says("7: (what is granted so far stays so, and the others keep what they have)")
    private static void keptByDrop() {
        CommaCourt court = Check.courtWith("fff", "ffff");
        court.sue(0, 0);
        court.sue(1, 1);
        court.stay(1, 9);
        court.drop(0);
        check.due("granted so far", court.count(7), 2);
        check.due("granted about it", court.edition(0, 9), 1);
        check.due("until", court.edition(0, 8), 9);
        check.due("commas", court.edition(0, 1), 2);
    }

    @Says("8: gap: its number")
    private static void gapOfSue() {
        new Twins(check, Courts::withTwelveWords).dueWithin("sue", 0, 10, (court, gap) -> court.sue(0, gap));
        new Twins(check, () -> Check.courtWith("ab")).dueWithin("sue", 0, 0, (court, gap) -> court.sue(0, gap));
    }

    @Says("8: returns 10 and by how much the cost is less then")
    private static void lessBySue() {
        CommaCourt court = Check.courtWith("ab");
        court.set(0, 1);
        check.due("1 less, the least", court.sue(0, 0), 11);
        CommaCourt great = Courts.withTwelveWords();
        great.weight(0, 9);
        great.rule(0, 0, true, 20, -1);
        great.set(0, 30);
        // 108 in one clause costs 78; 54 and 54 cost 24 and 24; the fine is 20.
        check.due("50 less", great.sue(0, 5), 60);
        check.due("the cost then", great.edition(0, 6), 48 + 200);
    }

    @Says("8: the reason, 1 to 3, if it is refused")
    private static void reasonOfSue() {
        CommaCourt court = Check.courtWith("ab", "a,b", "ff");
        court.set(0, 1);
        court.stay(2, 1);
        check.due("stayed", court.sue(2, 0), 1);
        check.due("not less", court.sue(1, 0), 2);
        check.due("taken", court.sue(0, 0), 3);
        check.due("refused", court.count(8), 3);
        check.due("no comma has come", court.edition(0, 1), 0);
        check.due("no comma has gone", court.edition(1, 1), 1);
        check.due("granted", court.count(7), 0);
        check.due("granted about it", court.edition(0, 9), 0);
    }

    @Says("9: edition: its number")
    private static void numberOfStay() {
        busy.dueWithin("edition", 0, 2, (court, edition) -> court.stay(edition, 30));
    }

    @Says("9: days: 0 to 30")
    private static void daysOfStay() {
        busy.dueWithin("days", 0, 30, (court, days) -> court.stay(1, days));
    }

    @Says("9: it is stayed until the day that is so many days behind today")
    private static void dayOfStay() {
        for (int days : new int[] {0, 1, 30}) {
            CommaCourt court = Check.courtWith("a");
            court.day();
            court.day();
            court.stay(0, days);
            check.due("until", court.edition(0, 8), 2 + days);
            check.due("stayed today", court.edition(0, 7), days == 0 ? 0 : 1);
        }
    }

    @Says("9: (0: not stayed any more)")
    private static void stayedNoMore() {
        CommaCourt court = Check.courtWith("fff");
        court.stay(0, 30);
        check.due("a suit then", court.sue(0, 0), 1);
        check.due("stay(0, 0)", court.stay(0, 0), 30);
        check.due("stayed", court.edition(0, 7), 0);
        check.due("stayed ones", court.count(2), 0);
        check.due("a suit then", court.sue(0, 0), 14);
    }

    @Says("9: returns the day until which it was stayed before")
    private static void dayBeforeStay() {
        CommaCourt court = Check.courtWith("a");
        check.due("0 at first", court.stay(0, 30), 0);
        check.due("longer than now", court.stay(0, 1), 30);
        court.day();
        court.day();
        check.due("a day that is past", court.stay(0, 0), 1);
        check.due("today", court.stay(0, 30), 2);
        check.due("later", court.stay(0, 30), 32);
    }

    @Says("10: returns the day that it is then")
    private static void dayThen() {
        CommaCourt court = new CommaCourt();
        for (int day = 1; day <= 500; day++) {
            check.due("day()", court.day(), day);
        }
        check.due("the day", court.count(0), 500);
    }
}
