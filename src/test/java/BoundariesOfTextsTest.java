/** The boundaries in 'Texts' and in the promises 11 to 16: append, clear, fault, plead, why, sign. */
public final class BoundariesOfTextsTest {
    private static final Check check = new Check("BoundariesOfTextsTest");
    private static final String TWELVE = "abcdefabcdef";
    private static final int NONE = Check.NOT_FOUND;

    public static void main(String[] args) {
        check.runAll(BoundariesOfTextsTest.class);
        check.end();
    }

    private static void dueFault(int way, String pad, int want) {
        CommaCourt court = Courts.withPad(pad);
        check.due("fault(" + way + ") of \"" + pad + "\"", court.fault(way), want);
        check.due("the pad stays", court.count(13), pad.length());
    }

    @Says("11: code: the character code, 33 to 126")
    private static void codeOfAppend() {
        new Twins(check, Courts::busy).dueWithin("append", 33, 126, CommaCourt::append);
        CommaCourt court = new CommaCourt();
        for (int code = 33; code <= 92; code++) {
            check.due("append(" + code + ")", court.append(code), code - 32);
        }
        court.clear();
        for (int code = 93; code <= 126; code++) {
            check.due("append(" + code + ")", court.append(code), code - 92);
        }
    }

    @Says("11: returns the length of the pad then; LIMIT_REACHED if it has 60 characters")
    private static void lengthOfAppend() {
        CommaCourt court = new CommaCourt();
        for (int length = 1; length <= 60; length++) {
            check.due("append()", court.append('a'), length);
        }
        check.due("to 60", court.append('a'), Check.LIMIT);
        check.due("clear()", court.clear(), 60);
        check.due("to none", court.append('a'), 1);
        new Twins(check, Courts::full).dueRefused("append() to 60", Check.LIMIT, full -> full.append('a'));
    }

    @Says("12: empties the pad; returns the length that it had")
    private static void lengthOfClear() {
        for (int length : new int[] {0, 1, 59, 60}) {
            CommaCourt court = Courts.withPad("a".repeat(length));
            check.due("clear()", court.clear(), length);
            check.due("the length then", court.count(13), 0);
            check.due("clear() again", court.clear(), 0);
            check.due("print() of nothing", court.print(), Check.NOT_POSSIBLE);
        }
        new Twins(check, CommaCourt::new).dueNothingChanged("clear() of nothing", CommaCourt::clear);
    }

    @Says("12: (what a longer pad had behind the end of a shorter one does not matter)")
    private static void shorterBehindClear() {
        CommaCourt court = Courts.withTwelveWords();
        court.set(0, 1);
        Check.type(court, "0:10;+");
        Check.type(court, "0:1");
        check.due("the gap 1, not 10", court.plead(), 1);
        check.due("the comma", court.edition(0, 1), 2);
        Check.type(court, "0:10");
        court.plead();
        Check.type(court, "0:1");
        check.due("the gap 1 again", court.plead(), 0);
        check.due("commas", court.edition(0, 1), 1026);
        Check.type(court, "a,b,c,d,e,f,a,b,c,d,e,f");
        Check.type(court, "fe,d");
        check.due("print()", court.print(), 1);
        check.dueText("a shorter edition", court, 1, "fe,d");
        Check.type(court, "");
        check.due("the fault of nothing", court.fault(0), 0);
    }

    @Says("13: way: 0 if it is read as an edition, 1 if it is read as suits")
    private static void wayOfFault() {
        new Twins(check, Courts::busy).dueWithin("way", 0, 1, CommaCourt::fault);
        new Twins(check, Courts::pleading).dueWithin("way", 0, 1, CommaCourt::fault);
    }

    @Says("if there is none, and the pad is not complete (also if it is empty), the length of the pad")
    private static void faultOfBeginnings() {
        String edition = "a,b,c,d,e,f,a,b,c,d,e,f";
        for (int length = 0; length <= edition.length(); length++) {
            dueFault(0, edition.substring(0, length), length % 2 == 1 ? NONE : length);
        }
        String suits = "+;0:0;3:10;+;1:9";
        int[] complete = {1, 5, 9, 10, 12, 16};
        for (int length = 0; length <= suits.length(); length++) {
            int want = length;
            for (int end : complete) {
                want = end == length ? NONE : want;
            }
            dueFault(1, suits.substring(0, length), want);
        }
    }

    @Says("an edition: 1 to 12 letters")
    private static void faultOfManyWords() {
        for (int words = 1; words <= 12; words++) {
            dueFault(0, TWELVE.substring(0, words), NONE);
        }
        dueFault(0, TWELVE + "a", 12);
        dueFault(0, TWELVE + "aa", 12);
        dueFault(0, "a,b,c,d,e,f,a,b,c,d,e,fa", 23);
    }

    @Says("letters \"a\" to \"f\", with \",\" between some: every other sign is wrong")
    private static void faultOfWrongLetters() {
        for (int code = 33; code <= 126; code++) {
            boolean letter = code >= 'a' && code <= 'f';
            String sign = String.valueOf((char) code);
            dueFault(0, sign, letter ? NONE : 0);
            dueFault(0, "a" + sign, letter ? NONE : code == ',' ? 2 : 1);
            dueFault(0, "a," + sign, letter ? NONE : 2);
            dueFault(0, TWELVE + sign, 12);
        }
    }

    @Says("with \",\" between some of them, one at most between two")
    private static void faultOfCommas() {
        dueFault(0, ",", 0);
        dueFault(0, ",a", 0);
        dueFault(0, "a,,b", 2);
        dueFault(0, "a,b,", 4);
        dueFault(0, "a,b,,", 4);
    }

    @Says("the first character that is wrong: no pad begins so (behind the twelfth letter there is no \",\")")
    private static void faultOfLastComma() {
        dueFault(0, TWELVE + ",", 12);
        dueFault(0, "abcdefabcde,", 12);
        dueFault(0, "abcdefabcde,f,", 13);
        dueFault(0, "a,b,c,d,e,f,a,b,c,d,e,f,", 23);
    }

    @Says("no pad of that kind, of any length, begins so (a full pad can be at fault behind its end)")
    private static void faultOfFullPads() {
        String days = "+;".repeat(30);
        dueFault(1, days, 60);
        dueFault(1, days.substring(0, 59), NONE);
        dueFault(1, days.substring(0, 58) + "0:", 60);
        dueFault(1, days.substring(0, 58) + "+0", 59);
        dueFault(1, days.substring(0, 56) + "0:10", NONE);
        dueFault(1, days.substring(0, 56) + "0:11", 59);
        dueFault(0, "a".repeat(60), 12);
        dueFault(0, ",".repeat(60), 0);
    }

    @Says("one or more parts with \";\" between two")
    private static void faultOfParts() {
        dueFault(1, ";", 0);
        dueFault(1, ";+", 0);
        dueFault(1, "+;", 2);
        dueFault(1, "+;;+", 2);
        dueFault(1, "++", 1);
        dueFault(1, "0:0+", 3);
        dueFault(1, "+0:0", 1);
        dueFault(1, "0:00:0", 3);
        dueFault(1, "0:10;", 5);
        dueFault(1, "0:1;", 4);
        dueFault(1, "+,+", 1);
    }

    @Says("an edition (a digit 0 to 3): every other sign but \"+\" is wrong")
    private static void faultOfEditionNumbers() {
        for (int code = 33; code <= 126; code++) {
            String sign = String.valueOf((char) code);
            boolean digit = code >= '0' && code <= '3';
            dueFault(1, sign, code == '+' ? NONE : digit ? 1 : 0);
            dueFault(1, "+;" + sign, code == '+' ? NONE : digit ? 3 : 2);
        }
        dueFault(1, "00:0", 1);
        dueFault(1, "10:0", 1);
    }

    @Says("\":\": every other sign is wrong there")
    private static void faultOfColons() {
        for (int code = 33; code <= 126; code++) {
            dueFault(1, "3" + (char) code, code == ':' ? 2 : 1);
            dueFault(1, "+" + (char) code, code == ';' ? 2 : 1);
        }
        dueFault(1, "0::0", 2);
    }

    @Says("a gap (0 to 10 without a needless 0 ahead)")
    private static void faultOfGaps() {
        for (int gap = 0; gap <= 10; gap++) {
            dueFault(1, "0:" + gap, NONE);
            dueFault(1, "0:" + gap + ";+", NONE);
            dueFault(1, "0:0" + gap, 3);
        }
        for (int code = 33; code <= 126; code++) {
            boolean digit = code >= '0' && code <= '9';
            dueFault(1, "0:" + (char) code, digit ? NONE : 2);
            dueFault(1, "0:1" + (char) code, code == '0' ? NONE : code == ';' ? 4 : 3);
            dueFault(1, "0:2" + (char) code, code == ';' ? 4 : 3);
            dueFault(1, "0:0" + (char) code, code == ';' ? 4 : 3);
            dueFault(1, "0:10" + (char) code, code == ';' ? 5 : 4);
        }
    }

    @Says("(an edition and a gap of suits need not be there to be read without fault)")
    private static void faultDoesNotAskForEditions() {
        dueFault(1, "3:10", NONE);
        check.due("plead()", Courts.withPad("3:10").plead(), 0);
    }

    @Says("13: NOT_FOUND if it has none (an edition that there is already has none)")
    private static void faultOfPrinted() {
        CommaCourt court = Courts.full();
        Check.type(court, "a,b");
        check.due("fault(0)", court.fault(0), NONE);
        check.due("print()", court.print(), Check.NOT_POSSIBLE);
    }

    private static CommaCourt suing(String pad) {
        CommaCourt court = Check.courtWith("fff", "ff,f", "a");
        Check.type(court, pad);
        return court;
    }

    @Says("14: pleads the suits of the pad, one after the other (one part, and as many as a pad can hold)")
    private static void pleadOfFewAndMany() {
        CommaCourt court = suing("+");
        check.due("one day", court.plead(), 1);
        check.due("the day", court.count(0), 1);
        Check.type(court, "0:0");
        check.due("one suit", court.plead(), 1);
        check.due("the comma", court.edition(0, 1), 1);
        Check.type(court, "+;".repeat(29) + "+");
        check.due("thirty days", court.plead(), 30);
        check.due("the day", court.count(0), 31);
    }

    @Says("14: (an earlier part of the pad can bring what a later one needs)")
    private static void pleadInOrder() {
        CommaCourt court = suing("+;0:0;+");
        court.stay(0, 1);
        check.due("a day ends the stay", court.plead(), 3);
        CommaCourt other = suing("0:0;+");
        other.stay(0, 1);
        check.due("too late", other.plead(), 0);
        CommaCourt taken = Check.courtWith("fff", "f,ff");
        taken.set(0, 6);
        check.due("another edition is so", taken.whyNot(0, 0), 3);
        Check.type(taken, "1:1;0:0");
        check.due("it makes way", taken.plead(), 2);
        check.dueText("plead()", taken, 0, "f,ff");
        check.dueText("plead()", taken, 1, "f,f,f");
    }

    @Says("14: up to the first one that is refused (which is counted)")
    private static void pleadUpToRefused() {
        String[] pads = {"0:1;+;0:0", "+;0:1;+", "+;+;0:1"};
        for (int part = 0; part < 3; part++) {
            CommaCourt court = suing(pads[part]);
            check.due("plead()", court.plead(), part);
            check.due("refused", court.count(8), 1);
            check.due("granted", court.count(7), 0);
            check.due("days", court.count(0), part);
            check.due("the reason", court.why(0), 3);
        }
    }

    @Says("14: or whose edition is not there")
    private static void pleadUpToNoEdition() {
        CommaCourt court = suing("+;3:0;+");
        check.due("plead()", court.plead(), 1);
        check.due("the day", court.count(0), 1);
        check.due("not counted as refused", court.count(8), 0);
        check.due("why(0)", court.why(0), Check.INVALID);
        Check.type(court, "d");
        court.print();
        Check.type(court, "3:0");
        check.due("it is there, but not the gap", court.plead(), 0);
        check.due("why(0)", court.why(0), Check.INVALID);
        CommaCourt none = Courts.withPad("0:0");
        check.due("without editions", none.plead(), 0);
        check.due("why(0)", none.why(0), Check.INVALID);
    }

    @Says("14: or whose gap is not there")
    private static void pleadUpToNoGap() {
        for (int gap = 0; gap <= 10; gap++) {
            CommaCourt court = Check.courtWith("aaaaaaaaaaaa", "aaaaaaaaaaa", "aa");
            court.set(0, 1);
            Check.type(court, "0:" + gap + ";1:" + gap + ";2:" + gap);
            check.due("gap " + gap, court.plead(), gap == 0 ? 3 : gap < 10 ? 2 : 1);
            check.due("the comma", court.edition(0, 1), 1 << gap);
            check.due("not counted as refused", court.count(8), 0);
        }
    }

    @Says("14: and empties the pad")
    private static void pleadEmptiesPad() {
        for (String pad : new String[] {"+", "0:0", "0:1", "3:0", "0:9", "+;0:1;+;+"}) {
            CommaCourt court = suing(pad);
            court.plead();
            check.due("the pad", court.count(13), 0);
            check.due("plead() of nothing", court.plead(), Check.NOT_POSSIBLE);
        }
    }

    @Says("14: this is one change, also if none is granted")
    private static void pleadIsOneChange() {
        for (String pad : new String[] {"+;+;+;+;+;+", "0:0;1:0;+", "0:1", "3:0", "0:9"}) {
            CommaCourt court = suing(pad);
            court.plead();
            check.due("states behind " + pad, court.count(14), 4);
            check.due("undo()", court.undo(), 3);
            check.due("the day", court.count(0), 0);
            check.due("suits", court.count(7) + court.count(8), 0);
            check.due("commas", court.count(9), 1);
            check.due("undo() of print()", court.undo(), 2);
            check.due("editions", court.count(1), 2);
        }
    }

    @Says("14: NOT_POSSIBLE if the pad has a fault, read as suits")
    private static void pleadOfFault() {
        for (String pad : new String[] {"", ";", "+;", "0", "0:", "0:11", "4:0", "0:05", "ab", "+;+;x"}) {
            new Twins(check, () -> suing(pad))
                    .dueRefused("plead() of " + pad, Check.NOT_POSSIBLE, CommaCourt::plead);
        }
    }

    @Says("15: what: 0 to 2")
    private static void whatOfWhy() {
        Twins stopped = new Twins(check, Courts::busy);
        stopped.dueRefused("why(-1)", Check.INVALID, court -> court.why(-1));
        stopped.dueRefused("why(3)", Check.INVALID, court -> court.why(3));
        Twins never = new Twins(check, CommaCourt::new);
        for (int what : new int[] {-1, 3, Check.MIN, Check.MAX, 256}) {
            never.dueRefused("why(" + what + ")", Check.INVALID, court -> court.why(what));
            check.due("why(" + what + ") of a stop", Courts.busy().why(what), Check.INVALID);
        }
    }

    @Says("15: 0: the reason, or INVALID_ARGUMENT")
    private static void reasonOfWhy() {
        String[] pads = {"0:0", "1:0", "1:1", "2:0", "3:0", "0:2"};
        int[] reasons = {1, 2, 3, Check.INVALID, Check.INVALID, Check.INVALID};
        for (int pad = 0; pad < pads.length; pad++) {
            CommaCourt court = suing(pads[pad]);
            court.set(0, pad == 2 ? 18 : 8);
            court.stay(0, 1);
            check.due("plead()", court.plead(), 0);
            check.due("why(0) of " + pads[pad], court.why(0), reasons[pad]);
        }
    }

    @Says("15: 1: its number among the parts, from 0; 2: the position of its first sign in the pad")
    private static void placeOfWhy() {
        String[] pads = {"3:0", "3:10;+", "+;3:0", "0:0;3:0", "+;".repeat(28) + "3:10", "+;+;0:0;+;3:9;3:8"};
        int[] parts = {0, 0, 1, 1, 28, 4};
        int[] places = {0, 0, 2, 4, 56, 10};
        for (int pad = 0; pad < pads.length; pad++) {
            CommaCourt court = suing(pads[pad]);
            check.due("plead() of " + pads[pad], court.plead(), parts[pad]);
            check.due("why(1) of " + pads[pad], court.why(1), parts[pad]);
            check.due("why(2) of " + pads[pad], court.why(2), places[pad]);
        }
        CommaCourt ten = Check.courtWith("aaaaaaaaaaaa");
        ten.set(0, 1);
        Check.type(ten, "0:10;0:9;0:10");
        check.due("behind a gap of two signs", ten.plead(), 2);
        check.due("why(2)", ten.why(2), 9);
    }

    @Says("15: NOT_FOUND if there was no such call")
    private static void whyOfNoCall() {
        CommaCourt court = new CommaCourt();
        Check.type(court, "x");
        check.due("plead() with an error", court.plead(), Check.NOT_POSSIBLE);
        for (int what = 0; what < 3; what++) {
            check.due("why(" + what + ")", court.why(what), NONE);
        }
        CommaCourt sued = Check.courtWith("fff");
        sued.stay(0, 1);
        check.due("sue() that is refused", sued.sue(0, 0), 1);
        check.due("why(0)", sued.why(0), NONE);
    }

    @Says("15: NOT_FOUND if all its parts were done")
    private static void whyOfAllDone() {
        CommaCourt court = suing("3:0");
        court.plead();
        check.due("a stop", court.why(0), Check.INVALID);
        Check.type(court, "+");
        court.plead();
        for (int what = 0; what < 3; what++) {
            check.due("why(" + what + ")", court.why(what), NONE);
        }
    }

    @Says("15: the latest call of plead() that returned no error")
    private static void whyOfLatest() {
        CommaCourt court = suing("+;3:0");
        court.plead();
        Check.type(court, "+;+;+;x");
        court.plead();
        check.due("an error is not the latest", court.why(1), 1);
        Check.type(court, "+;+;0:1");
        court.plead();
        check.due("the latest", court.why(0), 3);
        check.due("the latest", court.why(1), 2);
        check.due("the latest", court.why(2), 4);
    }

    @Says("15: (this is not a part of what is undone, or restored)")
    private static void whyStays() {
        CommaCourt court = suing("+");
        court.plead();
        court.save();
        Check.type(court, "+;0:1");
        court.plead();
        court.undo();
        check.due("behind undo()", court.why(0), 3);
        court.restore();
        check.due("behind restore()", court.why(0), 3);
        court.drop(0);
        court.clear();
        check.due("behind drop() and clear()", court.why(2), 2);
        Check.type(court, "+");
        court.plead();
        court.undo();
        check.due("all done, and undone", court.why(0), NONE);
    }

    @Says("16: place: from 0; INVALID_ARGUMENT (also if place is below 0)")
    private static void placeBelowSign() {
        Twins twins = new Twins(check, Courts::busy);
        for (int place : new int[] {-1, -2, Check.MIN, Check.MIN + 1, -256, -65536}) {
            twins.dueRefused("sign(0, " + place + ")", Check.INVALID, court -> court.sign(0, place));
        }
        check.due("the first sign", Courts.busy().sign(1, 0), 'a');
    }

    @Says("16: NOT_FOUND if the text is not so long")
    private static void placeBehindSign() {
        String[] texts = {"a", "ab", "a,b", TWELVE, "a,b,c,d,e,f,a,b,c,d,e,f"};
        for (String text : texts) {
            CommaCourt court = Check.courtWith(text);
            for (int place = 0; place < text.length(); place++) {
                check.due("sign " + place + " of " + text, court.sign(0, place), text.charAt(place));
            }
            for (int place : new int[] {text.length(), text.length() + 1, 24, 60, 256, 65536, Check.MAX}) {
                check.due("sign " + place + " of " + text, court.sign(0, place), NONE);
            }
        }
    }
}
