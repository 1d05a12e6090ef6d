/** Promises 6 to 10: print, drop, sue, stay, day. */
public final class EditionsAndSuitsTest {
    private static final Check check = new Check("EditionsAndSuitsTest");

    public static void main(String[] args) {
        print();
        printErrors();
        drop();
        sue();
        sueIsRefused();
        reasonsInOrder();
        stay();
        day();
        check.end();
    }

    private static void print() {
        CommaCourt court = new CommaCourt();
        Check.type(court, "a,bcf");
        check.due("print()", court.print(), 0);
        check.due("the pad is empty then", court.count(13), 0);
        check.due("words", court.edition(0, 0), 4);
        check.due("commas", court.edition(0, 1), 1);
        check.due("not stayed", court.edition(0, 8), 0);
        check.due("no suits", court.edition(0, 9), 0);
        Check.type(court, "ab,cf");
        check.due("the same words with other commas", court.print(), 1);
        Check.type(court, "a,b,c,d,e,f,a,b,c,d,e,f");
        check.due("12 words and 11 commas", court.print(), 2);
        check.due("all gaps", court.edition(2, 1), 2047);
        check.dueText("print()", court, 2, "a,b,c,d,e,f,a,b,c,d,e,f");
        Check.type(court, "abc");
        check.due("a shorter one", court.print(), 3);
        check.dueText("print()", court, 3, "abc");
        check.due("count(14)", court.count(14), 4);
        court.undo();
        check.due("undo does not bring the pad back", court.count(13), 0);
        check.due("undo takes the edition", court.count(1), 3);
    }

    private static void printErrors() {
        CommaCourt court = Check.courtWith("ab");
        check.due("an empty pad", court.print(), Check.NOT_POSSIBLE);
        for (String pad : new String[] {",a", "a,", "a,,b", "ag", "A", "a;b", "abcdefabcdefa", "abcdefabcdef,"}) {
            Check.type(court, pad);
            check.due("print() of " + pad, court.print(), Check.NOT_POSSIBLE);
            check.due("the pad stays", court.count(13), pad.length());
        }
        Check.type(court, "ab");
        check.due("there is one", court.print(), Check.NOT_POSSIBLE);
        check.due("the pad stays", court.count(13), 2);
        check.due("no changes", court.count(14), 1);
        Check.type(court, "b");
        check.due("print b", court.print(), 1);
        Check.type(court, "a,b");
        check.due("print a,b", court.print(), 2);
        Check.type(court, "a");
        check.due("print a", court.print(), 3);
        Check.type(court, "c");
        check.due("a fifth", court.print(), Check.LIMIT);
        check.due("the pad stays", court.count(13), 1);
        Check.type(court, "a,b");
        check.due("a fifth that there is", court.print(), Check.NOT_POSSIBLE);
        Check.type(court, "a,");
        check.due("a fifth with a fault", court.print(), Check.NOT_POSSIBLE);
        check.due("still four states", court.count(14), 4);
    }

    private static void drop() {
        CommaCourt court = Check.courtWith("a", "bf,b", "c", "dd");
        court.stay(3, 7);
        check.due("drop(-1)", court.drop(-1), Check.INVALID);
        check.due("drop(4)", court.drop(4), Check.INVALID);
        check.due("drop(MIN)", court.drop(Check.MIN), Check.INVALID);
        check.due("drop(MAX)", court.drop(Check.MAX), Check.INVALID);
        check.due("drop(0)", court.drop(0), 3);
        check.dueText("drop(0)", court, 0, "bf,b");
        check.dueText("drop(0)", court, 1, "c");
        check.dueText("drop(0)", court, 2, "dd");
        check.due("the stay goes along", court.edition(2, 8), 7);
        check.due("there is no 3", court.edition(3, 0), Check.INVALID);
        check.due("drop(1)", court.drop(1), 2);
        check.dueText("drop(1)", court, 1, "dd");
        check.due("drop(1), the last", court.drop(1), 1);
        check.dueText("drop(1)", court, 0, "bf,b");
        Check.type(court, "c");
        check.due("a new one behind it", court.print(), 1);
        check.due("that is new", court.edition(1, 8), 0);
        court.drop(1);
        check.due("drop(0)", court.drop(0), 0);
        check.due("drop(0) without editions", court.drop(0), Check.INVALID);
        check.due("undo", court.undo(), 3);
        check.dueText("undo", court, 0, "bf,b");
    }

    private static void sue() {
        // Weights 6+6 = 12: cost 4 in one clause, 2+2 in two: no less. 6+6+6 = 18: 10, with a comma 2+4 = 6.
        CommaCourt court = Check.courtWith("fff");
        check.due("cost", court.edition(0, 6), 10);
        check.due("sue(0, 1)", court.sue(0, 1), 14);
        check.due("comma 1 has come", court.edition(0, 1), 2);
        check.due("cost then", court.edition(0, 6), 6);
        check.due("sue(0, 0): 2+2+2 = 6 is no less", court.sue(0, 0), 2);
        check.due("granted", court.count(7), 1);
        check.due("refused", court.count(8), 1);
        check.due("granted about it", court.edition(0, 9), 1);
        check.due("both are changes", court.count(14), 3);
        court.set(0, 18);
        check.due("sue(0, 1) takes the comma", court.sue(0, 1), 28);
        check.due("no comma", court.edition(0, 1), 0);
        check.due("granted about it", court.edition(0, 9), 2);
        int[][] wrong = {{-1, 0}, {1, 0}, {0, -1}, {0, 2}, {Check.MIN, 0}, {Check.MAX, 0}, {0, Check.MIN},
            {0, Check.MAX}, {0, 32}, {0, 33}};
        for (int[] pair : wrong) {
            check.due("sue(" + pair[0] + ", " + pair[1] + ")", court.sue(pair[0], pair[1]), Check.INVALID);
        }
        check.due("errors are not refused suits", court.count(8), 1);
        CommaCourt one = Check.courtWith("f");
        check.due("an edition of one word has no gap", one.sue(0, 0), Check.INVALID);
    }

    private static void sueIsRefused() {
        CommaCourt court = Check.courtWith("ff,f", "fff");
        check.due("another edition has them", court.sue(1, 1), 3);
        check.due("refused", court.count(8), 1);
        check.due("nothing moved", court.edition(1, 1), 0);
        check.due("the mirror is free", court.sue(1, 0), 14);
        check.due("not less", court.sue(0, 1), 2);
        court.stay(0, 1);
        check.due("stayed", court.sue(0, 0), 1);
        check.due("refused", court.count(8), 3);
        check.due("granted", court.count(7), 1);
        check.due("undo takes the count back", court.undo(), 3);
        check.due("refused", court.count(8), 2);
        CommaCourt longer = Check.courtWith("ff,f", "ffff", "fff,f");
        check.due("a part of the same words is another edition", longer.sue(1, 1), 10 + 8);
    }

    private static void reasonsInOrder() {
        CommaCourt court = Check.courtWith("ff", "f,f");
        // 12: cost 4; 6 and 6: cost 4. Not less, and another has them.
        check.due("2 ahead of 3", court.sue(0, 0), 2);
        court.set(0, 6);
        check.due("3 when it is less", court.sue(0, 0), 3);
        court.stay(0, 30);
        check.due("1 ahead of 3", court.sue(0, 0), 1);
        court.set(0, 12);
        check.due("1 ahead of 2", court.sue(0, 0), 1);
        check.due("an error ahead of reasons", court.sue(0, 1), Check.INVALID);
    }

    private static void stay() {
        CommaCourt court = Check.courtWith("ab", "cd");
        court.day();
        court.day();
        check.due("stay(0, 30)", court.stay(0, 30), 0);
        check.due("until day 32", court.edition(0, 8), 32);
        check.due("the other is not", court.edition(1, 8), 0);
        check.due("stay(0, 1)", court.stay(0, 1), 32);
        check.due("stayed on day 2", court.edition(0, 7), 1);
        check.due("count(2)", court.count(2), 1);
        court.day();
        check.due("not on day 3", court.edition(0, 7), 0);
        check.due("count(2)", court.count(2), 0);
        check.due("stay(0, 5)", court.stay(0, 5), 3);
        check.due("stay(0, 0)", court.stay(0, 0), 8);
        check.due("not stayed any more", court.edition(0, 7), 0);
        check.due("until today", court.edition(0, 8), 3);
        int[][] wrong = {{-1, 1}, {2, 1}, {0, -1}, {0, 31}, {Check.MIN, 1}, {Check.MAX, 1}, {0, Check.MIN},
            {0, Check.MAX}};
        int before = court.count(14);
        for (int[] pair : wrong) {
            check.due("stay(" + pair[0] + ", " + pair[1] + ")", court.stay(pair[0], pair[1]), Check.INVALID);
        }
        check.due("errors are no changes", court.count(14), before);
        check.due("stay(1, 0)", court.stay(1, 0), 0);
    }

    private static void day() {
        CommaCourt court = new CommaCourt();
        for (int day = 1; day <= 40; day++) {
            check.due("day()", court.day(), day);
        }
        check.due("count(0)", court.count(0), 40);
        check.due("four states", court.count(14), 4);
        check.due("undo", court.undo(), 3);
        check.due("the day before", court.count(0), 39);
        check.due("day() again", court.day(), 40);
    }
}
