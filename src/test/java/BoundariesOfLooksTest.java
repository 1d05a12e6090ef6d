/** The boundaries in the promises 17 to 26: looks, and what would be. */
public final class BoundariesOfLooksTest {
    private static final Check check = new Check("BoundariesOfLooksTest");
    private static final Twins busy = new Twins(check, Courts::busy);
    private static final String TWELVE = "abcdefabcdef";

    public static void main(String[] args) {
        check.runAll(BoundariesOfLooksTest.class);
        check.end();
    }

    private static void dueEdition(String text, int... told) {
        CommaCourt court = Check.courtWith(text);
        for (int what = 0; what < told.length; what++) {
            check.due("edition(0, " + what + ") of " + text, court.edition(0, what), told[what]);
        }
    }

    @Says("17: what: 0 to 9")
    private static void whatOfEdition() {
        busy.dueWithin("what", 0, 9, (court, what) -> court.edition(0, what));
    }

    @Says("17: words, commas, clauses, weight, cost of clauses, fines, cost, stayed, until, granted")
    private static void editionAtItsEnds() {
        dueEdition("a", 1, 0, 1, 1, 7, 0, 7, 0, 0, 0);
        dueEdition("bf", 2, 0, 1, 8, 0, 0, 0, 0, 0, 0);
        dueEdition(TWELVE, 12, 0, 1, 42, 34, 0, 34, 0, 0, 0);
        dueEdition("a,b,c,d,e,f,a,b,c,d,e,f", 12, 2047, 12, 42, 54, 0, 54, 0, 0, 0);
    }

    @Says("17: 7: 1 if it is stayed today, otherwise 0; 8: the day until which it is stayed")
    private static void stayedToday() {
        CommaCourt court = Check.courtWith("a");
        court.stay(0, 2);
        int[] stayed = {1, 1, 0, 0};
        for (int day = 0; day < 4; day++) {
            check.due("stayed on the day " + day, court.edition(0, 7), stayed[day]);
            check.due("count(2) on the day " + day, court.count(2), stayed[day]);
            check.due("until", court.edition(0, 8), 2);
            court.day();
        }
    }

    @Says("17: 9: suits about it that were granted (by plead(), too, but none that was refused)")
    private static void grantedAboutIt() {
        CommaCourt court = Check.courtWith("fff", "ffff");
        check.due("granted", court.sue(0, 0), 14);
        check.due("refused", court.sue(0, 1), 2);
        Check.type(court, "1:1;1:1");
        court.plead();
        court.set(0, 18);
        check.due("the comma goes again", court.sue(0, 0), 28);
        check.due("about 0", court.edition(0, 9), 2);
        check.due("about 1", court.edition(1, 9), 1);
        check.due("in all", court.count(7), 3);
        check.due("refused in all", court.count(8), 2);
    }

    @Says("18: what: 0 to 3")
    private static void whatOfGap() {
        busy.dueWithin("what", 0, 3, (court, what) -> court.gap(0, 0, what));
        busy.dueWithin("what", 0, 3, (court, what) -> court.gap(1, 1, what));
    }

    @Says("18: 0: 1 if it has a comma, otherwise 0")
    private static void commaOfGap() {
        CommaCourt court = Check.courtWith("a,bcdefabcde,f", "ab,cdefabcd,ef");
        for (int gap = 0; gap <= 10; gap++) {
            check.due("gap " + gap, court.gap(0, gap, 0), gap == 0 || gap == 10 ? 1 : 0);
            check.due("gap " + gap, court.gap(1, gap, 0), gap == 1 || gap == 9 ? 1 : 0);
        }
    }

    @Says("18: 1: the ruling that counts about it, NOT_FOUND without one")
    private static void rulingOfGap() {
        CommaCourt court = Check.courtWith("ab");
        check.due("without rulings", court.gap(0, 0, 1), Check.NOT_FOUND);
        court.rule(1, 0, true, 1, -1);
        check.due("about the other order", court.gap(0, 0, 1), Check.NOT_FOUND);
        for (int number = 1; number < 10; number++) {
            court.rule(0, 1, true, number, 0);
            check.due("the latest", court.gap(0, 0, 1), number);
        }
        court.overrule(9);
        check.due("the latest in force", court.gap(0, 0, 1), 8);
        court.overrule(0);
        check.due("all have fallen", court.gap(0, 0, 1), Check.NOT_FOUND);
    }

    @Says("18: 2: its fine now, 0 if it is not fined")
    private static void fineOfGap() {
        CommaCourt court = Check.courtWith("ab", "a,b");
        check.due("without rulings", court.gap(0, 0, 2), 0);
        court.rule(0, 1, true, 20, -1);
        check.due("asked for, and not there", court.gap(0, 0, 2), 20);
        check.due("asked for, and there", court.gap(1, 0, 2), 0);
        court.rule(0, 1, false, 1, -1);
        check.due("forbidden, and not there", court.gap(0, 0, 2), 0);
        check.due("forbidden, and there", court.gap(1, 0, 2), 1);
    }

    @Says("18: 3: by how much the cost would be greater with the comma moved, 1000 added to it")
    private static void moreOfGap() {
        CommaCourt court = Check.courtWith("ff", "f,f", "bf", "b,f");
        int[] more = {1000, 1000, 1008, 992};
        for (int edition = 0; edition < 4; edition++) {
            check.due("edition " + edition, court.gap(edition, 0, 3), more[edition]);
        }
        court.rule(1, 5, false, 20, -1);
        check.due("with a fine then", court.gap(2, 0, 3), 1028);
        check.due("without the fine then", court.gap(3, 0, 3), 972);
        court.stay(3, 1);
        check.due("stayed, but told all the same", court.gap(3, 0, 3), 972);
    }

    @Says("19: what: 0 to 8")
    private static void whatOfRuling() {
        busy.dueWithin("what", 0, 8, (court, what) -> court.ruling(0, what));
    }

    @Says("19: the kinds, whether it asks for a comma, and the fine, at their ends")
    private static void rulingAtItsEnds() {
        CommaCourt court = new CommaCourt();
        court.rule(0, 5, true, 1, -1);
        court.rule(5, 0, false, 20, 0);
        int[][] told = {{0, 5, 1, 1, Check.NOT_FOUND, 1, 1, 1, 0}, {5, 0, 0, 20, 0, 1, 1, 0, 0}};
        for (int ruling = 0; ruling < 2; ruling++) {
            for (int what = 0; what < 9; what++) {
                check.due("ruling(" + ruling + ", " + what + ")", court.ruling(ruling, what), told[ruling][what]);
            }
        }
    }

    @Says("19: 4: the ruling that it cites, NOT_FOUND for none")
    private static void citedByRuling() {
        CommaCourt court = Courts.full();
        check.due("none", court.ruling(0, 4), Check.NOT_FOUND);
        for (int ruling = 1; ruling < 10; ruling++) {
            check.due("the one ahead", court.ruling(ruling, 4), ruling - 1);
        }
        court.overrule(0);
        check.due("overruled, but cited", court.ruling(1, 4), 0);
    }

    @Says("19: 5: 1 if it is in force, otherwise 0; 6: 1 if it counts, otherwise 0")
    private static void forceOfRuling() {
        CommaCourt court = new CommaCourt();
        court.rule(0, 0, true, 1, -1);
        court.rule(0, 0, false, 2, -1);
        int[][] told = {{1, 0, 1, 1}, {1, 1, 0, 0}, {0, 0, 0, 0}};
        for (int step = 0; step < 3; step++) {
            check.due("0 in force", court.ruling(0, 5), told[step][0]);
            check.due("0 counts", court.ruling(0, 6), told[step][1]);
            check.due("1 in force", court.ruling(1, 5), told[step][2]);
            check.due("1 counts", court.ruling(1, 6), told[step][3]);
            court.overrule(1 - step);
        }
    }

    @Says("19: 7: how many rulings cite it")
    private static void citationsOfRuling() {
        CommaCourt court = new CommaCourt();
        court.rule(0, 0, true, 1, -1);
        check.due("none", court.ruling(0, 7), 0);
        for (int ruling = 1; ruling < 10; ruling++) {
            court.rule(0, 0, true, 1, 0);
        }
        check.due("nine", court.ruling(0, 7), 9);
        check.due("none of the last", court.ruling(9, 7), 0);
        court.overrule(3);
        check.due("an overruled one cites it still", court.ruling(0, 7), 9);
    }

    @Says("19: 8: the fines that it brings to all editions now")
    private static void finesOfRuling() {
        CommaCourt court = new CommaCourt();
        court.rule(0, 0, true, 20, -1);
        check.due("without editions", court.ruling(0, 8), 0);
        for (String text : new String[] {"aaaaaaaaaaaa", "aaaaaaaaaaa", "aaaaaaaaaa", "aaaaaaaaa"}) {
            Check.type(court, text);
            court.print();
        }
        check.due("of all gaps", court.ruling(0, 8), 20 * (11 + 10 + 9 + 8));
        court.rule(0, 0, false, 20, -1);
        check.due("of none", court.ruling(0, 8), 0);
        check.due("of none", court.ruling(1, 8), 0);
    }

    @Says("20: 0 if it would not (be refused), though it changes nothing")
    private static void whyNotOfNone() {
        Twins twins = new Twins(check, () -> Check.courtWith("fff"));
        twins.dueNothingChanged("whyNot(0, 0)", court -> court.whyNot(0, 0));
        check.due("whyNot(0, 0)", Check.courtWith("fff").whyNot(0, 0), 0);
    }

    @Says("20: the reason, 1 to 3")
    private static void whyNotOfAll() {
        CommaCourt court = Check.courtWith("ab", "a,b", "ff");
        court.set(0, 1);
        court.stay(2, 1);
        check.due("whyNot(2, 0)", court.whyNot(2, 0), 1);
        check.due("whyNot(1, 0)", court.whyNot(1, 0), 2);
        check.due("whyNot(0, 0)", court.whyNot(0, 0), 3);
        check.due("none is counted", court.count(8), 0);
    }

    @Says("21: what: 0 to 2")
    private static void whatOfBest() {
        busy.dueWithin("what", 0, 2, (court, what) -> court.best(0, what, 0));
        busy.dueWithin("what", 0, 2, (court, what) -> court.best(0, what, 1));
    }

    @Says("21: way: 0 or 1")
    private static void wayOfBest() {
        busy.dueWithin("way", 0, 1, (court, way) -> court.best(0, 0, way));
    }

    private static void dueBest(CommaCourt court, int set, int cost, int commas) {
        for (int way = 0; way < 2; way++) {
            check.due("the set, way " + way, court.best(0, 0, way), set);
            check.due("its cost, way " + way, court.best(0, 1, way), cost);
            check.due("commas, way " + way, court.best(0, 2, way), commas);
        }
    }

    @Says("21: returns the number (the same for both): of one word")
    private static void bestOfOneWord() {
        CommaCourt court = Check.courtWith("a");
        dueBest(court, 0, 7, 0);
        court.set(0, 1);
        dueBest(court, 0, 0, 0);
    }

    @Says("21: returns the number (the same for both): of twelve words, with all commas and with none")
    private static void bestOfTwelveWords() {
        CommaCourt court = Courts.withTwelveWords();
        court.set(0, 1);
        dueBest(court, 2047, 0, 11);
        court.set(0, 12);
        dueBest(court, 0, 0, 0);
        court.rule(0, 0, true, 20, -1);
        dueBest(court, 2047, 132, 11);
        court.set(0, 30);
        court.weight(0, 9);
        // Three clauses of 36 cost 18, and 40 for commas; two of 54 cost 48 and 20, four of 27 cost 12 and 60.
        court.rule(0, 0, false, 20, -1);
        dueBest(court, 136, 58, 2);
    }

    @Says("21: the greatest cost that is best")
    private static void bestOfGreatCost() {
        CommaCourt court = Check.courtWith("ababababab,ab");
        court.set(0, 30);
        court.rule(0, 1, true, 20, -1);
        court.rule(1, 0, true, 20, -1);
        // A comma costs 30 more for its clause, and takes a fine of 20.
        dueBest(court, 0, 12 + 220, 0);
    }

    @Says("22: way: 0 or 1")
    private static void wayOfWays() {
        busy.dueWithin("way", 0, 1, (court, way) -> court.ways(0, way));
    }

    private static void dueWays(CommaCourt court, int ways) {
        for (int way = 0; way < 2; way++) {
            check.due("way " + way, court.ways(0, way), ways);
        }
    }

    @Says("22: returns how many (the same for both): of one word, though it is as heavy as can be")
    private static void waysOfOneWord() {
        CommaCourt court = Check.courtWith("f");
        dueWays(court, 1);
        court.weight(5, 9);
        court.set(1, 9);
        dueWays(court, 1);
    }

    @Says("22: returns how many (the same for both): of twelve words, all and one")
    private static void waysOfTwelveWords() {
        CommaCourt court = Courts.withTwelveWords();
        dueWays(court, 2048);
        court.set(1, 12);
        dueWays(court, 2048);
        court.set(1, 11);
        dueWays(court, 2047);
        court.set(1, 9);
        court.weight(0, 5);
        dueWays(court, 1);
        court.set(1, 60);
        dueWays(court, 2048);
        court.set(1, 59);
        dueWays(court, 2047);
    }

    @Says("22: (the commas that stand do not matter)")
    private static void waysOfSplitWords() {
        dueWays(Check.courtWith("fff"), 3);
        dueWays(Check.courtWith("f,f,f"), 3);
    }

    @Says("23: what: 0 to 14")
    private static void whatOfCount() {
        busy.dueWithin("what", 0, 14, CommaCourt::count);
        new Twins(check, CommaCourt::new).dueWithin("what", 0, 14, CommaCourt::count);
    }

    @Says("23: 1: editions; 2: stayed ones; 3: the cost of all editions; 9: commas of all editions")
    private static void countsOfEditions() {
        CommaCourt court = new CommaCourt();
        String[] texts = {"a,b", "f", "bf", "a,a,a,a,a,a,a,a,a,a,a,a"};
        int[] costs = {13, 15, 15, 99};
        int[] commas = {1, 1, 1, 12};
        for (int edition = 0; edition < 4; edition++) {
            Check.type(court, texts[edition]);
            court.print();
            court.stay(edition, 30);
            check.due("editions", court.count(1), edition + 1);
            check.due("stayed ones", court.count(2), edition + 1);
            check.due("the cost", court.count(3), costs[edition]);
            check.due("commas", court.count(9), commas[edition]);
        }
        for (int left = 3; left >= 0; left--) {
            court.drop(left);
            check.due("stayed ones", court.count(2), left);
        }
        check.due("the cost of none", court.count(3), 0);
        check.due("commas of none", court.count(9), 0);
    }

    @Says("23: 4: rulings; 5: those in force; 6: those that count")
    private static void countsOfRulings() {
        CommaCourt court = Courts.full();
        check.due("rulings", court.count(4), 10);
        check.due("in force", court.count(5), 10);
        check.due("that count", court.count(6), 10);
        court.overrule(0);
        check.due("rulings", court.count(4), 10);
        check.due("in force", court.count(5), 0);
        check.due("that count", court.count(6), 0);
        CommaCourt same = new CommaCourt();
        for (int ruling = 0; ruling < 10; ruling++) {
            same.rule(3, 3, true, 1, -1);
            check.due("in force", same.count(5), ruling + 1);
            check.due("that count", same.count(6), 1);
        }
    }

    @Says("23: 12: the edition with the least cost, of several the lowest, NOT_FOUND without editions")
    private static void cheapest() {
        check.due("without editions", new CommaCourt().count(12), Check.NOT_FOUND);
        check.due("of one", Check.courtWith("a").count(12), 0);
        check.due("of two alike", Check.courtWith("af", "cf").count(12), 0);
        check.due("the last", Check.courtWith("a", "f", "af", "bf").count(12), 3);
        check.due("the first", Check.courtWith("bf", "a", "fb", "af").count(12), 0);
        check.due("two in the middle", Check.courtWith("a", "bf", "fb", "f").count(12), 1);
        CommaCourt fined = Check.courtWith("bf", "fb");
        fined.rule(1, 5, true, 1, -1);
        check.due("with fines", fined.count(12), 1);
    }

    @Says("23: 13: the length of the pad; 14: states in the history")
    private static void countsOfPadAndHistory() {
        CommaCourt court = new CommaCourt();
        check.due("an empty pad", court.count(13), 0);
        check.due("an empty history", court.count(14), 0);
        check.due("a full pad", Courts.full().count(13), 60);
        check.due("a full history", Courts.full().count(14), 4);
    }

    @Says("24: the words of all editions, as a double, divided by all their clauses; 0.0 without editions")
    private static void length() {
        check.dueDouble("without editions", new CommaCourt().length(), 0.0);
        check.dueDouble("one word", Check.courtWith("a").length(), 1.0);
        check.dueDouble("twelve in one", Courts.withTwelveWords().length(), 12.0);
        check.dueDouble("twelve in twelve", Check.courtWith("a,a,a,a,a,a,a,a,a,a,a,a").length(), 1.0);
        check.dueDouble("seven in three", Check.courtWith("abcd", "a,bc").length(), 7.0 / 3.0);
        check.dueDouble("five in four", Check.courtWith("a,b", "c", "dd").length(), 5.0 / 4.0);
        CommaCourt court = Check.courtWith("abc");
        court.drop(0);
        check.dueDouble("dropped", court.length(), 0.0);
    }

    @Says("25: first: 0 to 5; second: 0 to 5; fine: 1 to 20")
    private static void argumentsOfIfRuled() {
        busy.dueWithin("first", 0, 5, (court, first) -> court.ifRuled(first, 0, true, 1));
        busy.dueWithin("second", 0, 5, (court, second) -> court.ifRuled(0, second, false, 1));
        busy.dueWithin("fine", 1, 20, (court, fine) -> court.ifRuled(0, 1, true, fine));
        busy.dueNothingChanged("ifRuled()", court -> court.ifRuled(0, 1, true, 20));
    }

    @Says("25: by how much the cost of all editions would be greater, 1000 added to it")
    private static void moreIfRuled() {
        check.due("without editions", new CommaCourt().ifRuled(0, 0, true, 20), 1000);
        CommaCourt court = Check.courtWith("aaaaaaaaaaaa", "aaaaaaaaaaa", "aaaaaaaaaa", "aaaaaaaaa");
        check.due("the most", court.ifRuled(0, 0, true, 20), 1000 + 760);
        check.due("forbidden, and not there", court.ifRuled(0, 0, false, 20), 1000);
        check.due("other words", court.ifRuled(0, 1, true, 20), 1000);
        court.rule(0, 0, true, 20, -1);
        check.due("the least", court.ifRuled(0, 0, false, 20), 1000 - 760);
        check.due("the same once more", court.ifRuled(0, 0, true, 20), 1000);
        check.due("1 less for each", court.ifRuled(0, 0, true, 19), 1000 - 38);
    }

    @Says("25: (INVALID_ARGUMENT is its only error: with ten rulings it tells all the same)")
    private static void ifRuledWhenFull() {
        CommaCourt court = Courts.full();
        // ab is not split, a,b is: the ruling 6, about a and b, asks for a comma with 7 in ab and abc.
        check.due("there is no room", court.rule(0, 1, true, 9, -1), Check.LIMIT);
        check.due("fines now", court.ruling(6, 8), 14);
        check.due("2 more for each", court.ifRuled(0, 1, true, 9), 1004);
        check.due("for a,b instead", court.ifRuled(0, 1, false, 9), 1000 - 14 + 9);
    }

    @Says("26: NOT_FOUND if all are refused")
    private static void noBestSuit() {
        check.due("no gap", Check.courtWith("a").bestSuit(0), Check.NOT_FOUND);
        check.due("not less", Check.courtWith("ff").bestSuit(0), Check.NOT_FOUND);
        CommaCourt taken = Check.courtWith("ab", "a,b");
        taken.set(0, 1);
        check.due("taken", taken.bestSuit(0), Check.NOT_FOUND);
        CommaCourt stayed = Check.courtWith("fff");
        stayed.stay(0, 1);
        check.due("stayed", stayed.bestSuit(0), Check.NOT_FOUND);
        stayed.day();
        check.due("a day later", stayed.bestSuit(0), 0);
    }

    @Says("26: the gap whose suit is not refused and makes the cost least, of several the lowest")
    private static void bestSuitOfSeveral() {
        CommaCourt court = Check.courtWith("fff");
        check.due("the lowest", court.bestSuit(0), 0);
        Check.type(court, "f,ff");
        court.print();
        check.due("the lowest is taken", court.bestSuit(0), 1);
        CommaCourt last = Check.courtWith("aaaaaaaaaaab");
        last.rule(0, 1, true, 20, -1);
        check.due("the last gap", last.bestSuit(0), 10);
        CommaCourt first = Check.courtWith("baaaaaaaaaaa");
        first.rule(1, 0, true, 20, -1);
        check.due("the first gap", first.bestSuit(0), 0);
        CommaCourt goes = Check.courtWith("b,f,bf");
        check.due("a comma that goes", goes.bestSuit(0), 0);
        busy.dueNothingChanged("bestSuit()", of -> of.bestSuit(0));
    }
}
