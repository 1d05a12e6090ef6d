/** Promises 11 to 16: append, clear, fault, plead, why, sign. */
public final class TextsTest {
    private static final Check check = new Check("TextsTest");

    public static void main(String[] args) {
        append();
        clear();
        faultOfEditions();
        faultOfSuits();
        faultOfFullPads();
        plead();
        pleadIsOneChange();
        why();
        sign();
        check.end();
    }

    private static void append() {
        CommaCourt court = new CommaCourt();
        int[] wrong = {32, 127, 0, -1, 128, Check.MIN, Check.MAX};
        for (int code : wrong) {
            check.due("append(" + code + ")", court.append(code), Check.INVALID);
        }
        check.due("append(33)", court.append(33), 1);
        check.due("append(126)", court.append(126), 2);
        for (int length = 3; length <= 60; length++) {
            check.due("append", court.append('a'), length);
        }
        check.due("append to 60", court.append('a'), Check.LIMIT);
        check.due("a wrong one to 60", court.append(32), Check.INVALID);
        check.due("count(13)", court.count(13), 60);
        check.due("no change", court.count(14), 0);
    }

    private static void clear() {
        CommaCourt court = new CommaCourt();
        check.due("clear() of nothing", court.clear(), 0);
        Check.type(court, "abc");
        check.due("clear()", court.clear(), 3);
        check.due("count(13)", court.count(13), 0);
        check.due("clear() again", court.clear(), 0);
        check.due("no change", court.undo(), Check.NOT_POSSIBLE);
        Check.type(court, "abc");
        court.clear();
        court.append('f');
        check.due("nothing old is left", court.print(), 0);
        check.dueText("print", court, 0, "f");
    }

    private static void dueFault(int way, String pad, int want) {
        CommaCourt court = new CommaCourt();
        Check.type(court, pad);
        check.due("fault(" + way + ") of \"" + pad + "\"", court.fault(way), want);
        check.due("the pad stays", court.count(13), pad.length());
    }

    private static void faultOfEditions() {
        dueFault(0, "", 0);
        dueFault(0, "a", Check.NOT_FOUND);
        dueFault(0, "f", Check.NOT_FOUND);
        dueFault(0, "g", 0);
        dueFault(0, "`", 0);
        dueFault(0, "A", 0);
        dueFault(0, ",", 0);
        dueFault(0, "a,", 2);
        dueFault(0, "a,,b", 2);
        dueFault(0, "a,b", Check.NOT_FOUND);
        dueFault(0, "abz,", 2);
        dueFault(0, "a;b", 1);
        dueFault(0, "abcdefabcdef", Check.NOT_FOUND);
        dueFault(0, "abcdefabcdefa", 12);
        dueFault(0, "abcdefabcdef,", 12);
        dueFault(0, "abcdefabcdef,a", 12);
        dueFault(0, "abcdefabcde,", 12);
        dueFault(0, "abcdefabcde,f", Check.NOT_FOUND);
        dueFault(0, "a,b,c,d,e,f,a,b,c,d,e,f", Check.NOT_FOUND);
        dueFault(0, "a,b,c,d,e,f,a,b,c,d,e,f,", 23);
        CommaCourt court = Check.courtWith("ab");
        Check.type(court, "ab");
        check.due("what is printed already has no fault", court.fault(0), Check.NOT_FOUND);
        for (int way : new int[] {-1, 2, Check.MIN, Check.MAX}) {
            check.due("fault(" + way + ")", court.fault(way), Check.INVALID);
        }
    }

    private static void faultOfSuits() {
        dueFault(1, "", 0);
        dueFault(1, "+", Check.NOT_FOUND);
        dueFault(1, "+;", 2);
        dueFault(1, "++", 1);
        dueFault(1, ";", 0);
        dueFault(1, "+;;", 2);
        dueFault(1, "3", 1);
        dueFault(1, "4", 0);
        dueFault(1, "0:", 2);
        dueFault(1, "0;", 1);
        dueFault(1, "00:1", 1);
        dueFault(1, "0:0", Check.NOT_FOUND);
        dueFault(1, "0:9", Check.NOT_FOUND);
        dueFault(1, "0:1", Check.NOT_FOUND);
        dueFault(1, "0:10", Check.NOT_FOUND);
        dueFault(1, "0:11", 3);
        dueFault(1, "0:100", 4);
        dueFault(1, "0:01", 3);
        dueFault(1, "0:90", 3);
        dueFault(1, "0:a", 2);
        dueFault(1, "0:+", 2);
        dueFault(1, "0:1+", 3);
        dueFault(1, "0::1", 2);
        dueFault(1, "+0:1", 1);
        dueFault(1, "0:1;+;3:10;2:0", Check.NOT_FOUND);
        dueFault(1, "0:1;+;3:10;2:", 13);
        dueFault(1, "0:1;+;3:10;5:1", 11);
        dueFault(1, "0:/", 2);
        dueFault(1, "0::", 2);
        dueFault(1, "/:1", 0);
        dueFault(1, "a", 0);
    }

    private static void faultOfFullPads() {
        String days = "+;".repeat(30);
        dueFault(1, days, 60);
        dueFault(1, days.substring(0, 59), Check.NOT_FOUND);
        dueFault(1, "0:10;".repeat(11) + "0:10", Check.NOT_FOUND);
        dueFault(1, "0:10;".repeat(12), 60);
        dueFault(1, days.substring(0, 59) + "0", 59);
    }

    private static void plead() {
        CommaCourt court = Check.courtWith("fff", "ffff");
        Check.type(court, "0:1;+;1:1;+");
        check.due("plead()", court.plead(), 4);
        check.due("the pad is empty", court.count(13), 0);
        check.due("edition 0", court.edition(0, 1), 2);
        check.due("edition 1", court.edition(1, 1), 2);
        check.due("two days", court.count(0), 2);
        check.due("two granted", court.count(7), 2);
        check.due("why(0)", court.why(0), Check.NOT_FOUND);
        Check.type(court, "+;0:1;+");
        check.due("stops at a refused one", court.plead(), 1);
        check.due("refused", court.count(8), 1);
        check.due("what comes behind is not done", court.count(0), 3);
        check.due("what came ahead is done", court.edition(0, 1), 2);
        Check.type(court, "+;2:0;+");
        check.due("no such edition", court.plead(), 1);
        check.due("not counted as refused", court.count(8), 1);
        Check.type(court, "1:10");
        check.due("no such gap", court.plead(), 0);
        check.due("the pad is empty", court.count(13), 0);
        for (String pad : new String[] {"", "+;", "0:", "x", "abc", "+;+;9"}) {
            Check.type(court, pad);
            check.due("plead() of \"" + pad + "\"", court.plead(), Check.NOT_POSSIBLE);
            check.due("the pad stays", court.count(13), pad.length());
        }
        check.due("day", court.count(0), 4);
        CommaCourt longest = Check.courtWith("aaaaaaaaaaaa");
        longest.weight(0, 9);
        Check.type(longest, "0:10;0:0");
        check.due("gap 10 of 12 words", longest.plead(), 2);
        check.due("commas in gaps 10 and 0", longest.edition(0, 1), 1025);
        Check.type(longest, "+;".repeat(29) + "+");
        check.due("thirty days", longest.plead(), 30);
        check.due("day 30", longest.count(0), 30);
    }

    private static void pleadIsOneChange() {
        CommaCourt court = Check.courtWith("fff", "ff,f");
        court.stay(0, 2);
        check.due("states", court.count(14), 3);
        Check.type(court, "+;+;0:0;0:0");
        check.due("a day in the pad ends a stay", court.plead(), 3);
        check.due("one change", court.count(14), 4);
        check.due("why(0)", court.why(0), 2);
        check.due("undo", court.undo(), 3);
        check.due("the day is back", court.count(0), 0);
        check.due("the commas are back", court.edition(0, 1), 0);
        check.due("the counts are back", court.count(7) + court.count(8), 0);
        check.due("the pad is not", court.count(13), 0);
        check.due("why() stays", court.why(1), 3);
        Check.type(court, "0:0");
        check.due("none is granted", court.plead(), 0);
        check.due("a change all the same", court.count(14), 4);
        check.due("reason 1", court.why(0), 1);
        Check.type(court, "+;+;0:1");
        check.due("the third is taken", court.plead(), 2);
        check.due("reason 3", court.why(0), 3);
    }

    private static void why() {
        CommaCourt court = Check.courtWith("fff");
        Check.type(court, "0:10;+");
        check.due("plead()", court.plead(), 0);
        check.due("why(0)", court.why(0), Check.INVALID);
        check.due("why(1)", court.why(1), 0);
        check.due("why(2)", court.why(2), 0);
        Check.type(court, "+;0:1;+;0:1;+");
        check.due("plead()", court.plead(), 3);
        check.due("why(0)", court.why(0), 2);
        check.due("why(1)", court.why(1), 3);
        check.due("why(2)", court.why(2), 8);
        Check.type(court, "x");
        check.due("an error", court.plead(), Check.NOT_POSSIBLE);
        check.due("does not count", court.why(2), 8);
        court.save();
        court.undo();
        court.restore();
        court.sue(0, 0);
        court.clear();
        check.due("stays behind undo, restore and sue", court.why(2), 8);
        check.due("and why(1)", court.why(1), 3);
        for (int what : new int[] {-1, 3, Check.MIN, Check.MAX}) {
            check.due("why(" + what + ")", court.why(what), Check.INVALID);
        }
        Check.type(court, "0:0;0:10");
        court.plead();
        Check.type(court, "+");
        check.due("all done", court.plead(), 1);
        for (int what = 0; what < 3; what++) {
            check.due("why(" + what + ")", court.why(what), Check.NOT_FOUND);
        }
        check.due("why(3)", court.why(3), Check.INVALID);
        court.undo();
        check.due("not undone", court.why(0), Check.NOT_FOUND);
    }

    private static void sign() {
        CommaCourt court = Check.courtWith("a,bf", "c");
        int[] codes = {'a', ',', 'b', 'f', Check.NOT_FOUND, Check.NOT_FOUND};
        for (int place = 0; place < codes.length; place++) {
            check.due("sign(0, " + place + ")", court.sign(0, place), codes[place]);
        }
        check.due("sign(1, 0)", court.sign(1, 0), 'c');
        check.due("sign(1, 1)", court.sign(1, 1), Check.NOT_FOUND);
        check.due("sign(0, MAX)", court.sign(0, Check.MAX), Check.NOT_FOUND);
        check.due("sign(0, -1)", court.sign(0, -1), Check.INVALID);
        check.due("sign(0, MIN)", court.sign(0, Check.MIN), Check.INVALID);
        check.due("sign(2, 0)", court.sign(2, 0), Check.INVALID);
        check.due("sign(-1, 0)", court.sign(-1, 0), Check.INVALID);
        check.due("sign(2, 99)", court.sign(2, 99), Check.INVALID);
        court.set(0, 9);
        court.sue(0, 0);
        check.dueText("a suit moves the text", court, 0, "abf");
    }
}
