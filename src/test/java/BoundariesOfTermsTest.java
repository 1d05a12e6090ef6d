/** The sentences of the 'Terms' that name a boundary, but those about changes and errors. */
public final class BoundariesOfTermsTest {
    private static final Check check = new Check("BoundariesOfTermsTest");
    private static final String TWELVE = "abcdefabcdef";

    public static void main(String[] args) {
        check.runAll(BoundariesOfTermsTest.class);
        check.end();
    }

    private static String commasEverywhere(String words) {
        return String.join(",", words.split(""));
    }

    @Says("there are 6 kinds of words, each with a weight, at first 1 and the kind")
    private static void firstWeights() {
        for (int kind = 0; kind < 6; kind++) {
            CommaCourt court = Check.courtWith(String.valueOf((char) ('a' + kind)));
            check.due("the weight of the kind " + kind, court.edition(0, 3), kind + 1);
        }
    }

    @Says("an edition is a row of 1 to 12 words")
    private static void wordsOfEditions() {
        for (int words = 1; words <= 12; words++) {
            CommaCourt court = Check.courtWith(TWELVE.substring(0, words));
            check.due("words", court.edition(0, 0), words);
        }
        check.due("no word", Courts.withPad("").print(), Check.NOT_POSSIBLE);
        check.due("13 words", Courts.withPad(TWELVE + "a").print(), Check.NOT_POSSIBLE);
    }

    @Says("between two that are next to each other is a gap, numbered from 0")
    private static void gapsOfEditions() {
        for (int words = 1; words <= 12; words++) {
            CommaCourt court = Check.courtWith(TWELVE.substring(0, words));
            for (int gap = -1; gap <= 12; gap++) {
                int want = gap >= 0 && gap < words - 1 ? 0 : Check.INVALID;
                check.due("gap " + gap + " of " + words + " words", court.gap(0, gap, 0), want);
            }
        }
    }

    @Says("in a gap stands a comma, or not")
    private static void commasInGaps() {
        CommaCourt court = Check.courtWith(TWELVE, commasEverywhere(TWELVE), "a,bcdefabcde,f");
        check.due("in none", court.edition(0, 1), 0);
        check.due("in all", court.edition(1, 1), 2047);
        check.due("in the first and the last", court.edition(2, 1), 1025);
    }

    @Says("there are at most 4 editions")
    private static void mostEditions() {
        CommaCourt court = Check.courtWith("a", "b", "c", "d");
        check.due("four", court.count(1), 4);
        Check.type(court, "e");
        check.due("a fifth", court.print(), Check.LIMIT);
        court.drop(2);
        check.due("in place of a dropped one", court.print(), 3);
    }

    @Says("when one is dropped, those with greater numbers get numbers that are 1 less")
    private static void numbersOfEditions() {
        for (int dropped = 0; dropped < 4; dropped++) {
            CommaCourt court = Check.courtWith("a", "b", "c", "d");
            court.drop(dropped);
            for (int edition = 0; edition < 3; edition++) {
                int kind = edition < dropped ? edition : edition + 1;
                check.due("without " + dropped, court.sign(edition, 0), 'a' + kind);
            }
            check.due("no fourth", court.edition(3, 0), Check.INVALID);
        }
    }

    @Says("no two editions have the same words and the same commas")
    private static void noTwins() {
        CommaCourt court = Check.courtWith("ab,c");
        Check.type(court, "ab,c");
        check.due("both the same", court.print(), Check.NOT_POSSIBLE);
        String[] others = {"a,bc", "abc", "ab,d", "bb,c", "a,b,c", "ab,cc", "ab", "c"};
        for (String other : others) {
            CommaCourt beside = Check.courtWith("ab,c");
            Check.type(beside, other);
            check.due("ab,c and " + other, beside.print(), 1);
        }
    }

    @Says("a clause is a part of an edition as long as possible without a comma in it")
    private static void clauses() {
        CommaCourt court = Check.courtWith("a", TWELVE, commasEverywhere(TWELVE), "a,b");
        int[] clauses = {1, 1, 12, 2};
        for (int edition = 0; edition < 4; edition++) {
            check.due("clauses of " + edition, court.edition(edition, 2), clauses[edition]);
        }
    }

    @Says("it costs as much as its weight differs from BALANCE")
    private static void costOfClauses() {
        CommaCourt court = Check.courtWith("af", "bf", "cf");
        check.due("1 too light", court.edition(0, 4), 1);
        check.due("just as heavy", court.edition(1, 4), 0);
        check.due("1 too heavy", court.edition(2, 4), 1);
        CommaCourt far = Check.courtWith("a", TWELVE);
        far.set(0, 30);
        check.due("29 too light", far.edition(0, 4), 29);
        far.set(0, 1);
        check.due("41 too heavy", far.edition(1, 4), 41);
    }

    @Says("its weight is that of its words together")
    private static void weightOfClauses() {
        CommaCourt court = Check.courtWith(TWELVE, commasEverywhere(TWELVE));
        check.due("the words of one clause", court.edition(0, 4), 42 - 8);
        check.due("a clause for each word", court.edition(1, 4), 2 * (7 + 6 + 5 + 4 + 3 + 2));
    }

    @Says("a ruling is about a kind of word and another one, or the same, behind it")
    private static void rulingAboutTheSameKind() {
        CommaCourt court = Check.courtWith("aa", "aaa", "ab", "ba");
        court.rule(0, 0, true, 20, -1);
        int[] fines = {20, 40, 0, 0};
        for (int edition = 0; edition < 4; edition++) {
            check.due("fines of " + edition, court.edition(edition, 5), fines[edition]);
        }
    }

    @Says("it cites an earlier ruling, or none")
    private static void citesEarlier() {
        CommaCourt court = new CommaCourt();
        check.due("the first one cites itself", court.rule(0, 0, true, 1, 0), Check.INVALID);
        check.due("the first one cites none", court.rule(0, 0, true, 1, -1), 0);
        check.due("the second one cites itself", court.rule(0, 0, true, 1, 1), Check.INVALID);
        check.due("the second one cites a later one", court.rule(0, 0, true, 1, 2), Check.INVALID);
        check.due("the second one cites the one ahead", court.rule(0, 0, true, 1, 0), 1);
        check.due("the third one cites the first", court.rule(0, 0, true, 1, 0), 2);
    }

    @Says("there are at most 10 rulings, numbered from 0 in the order in which they came")
    private static void mostRulings() {
        CommaCourt court = new CommaCourt();
        for (int number = 0; number < 10; number++) {
            check.due("ruling " + number, court.rule(0, 0, true, number + 1, -1), number);
        }
        check.due("an eleventh", court.rule(0, 0, true, 11, -1), Check.LIMIT);
        check.due("ten", court.count(4), 10);
        for (int number = 0; number < 10; number++) {
            check.due("the fine of " + number, court.ruling(number, 3), number + 1);
        }
    }

    @Says("none ever goes, but it can be overruled, for ever")
    private static void rulingsStay() {
        CommaCourt court = new CommaCourt();
        for (int number = 0; number < 10; number++) {
            court.rule(0, 0, true, 1, -1);
        }
        for (int number = 0; number < 10; number++) {
            court.overrule(number);
        }
        check.due("none in force", court.count(5), 0);
        check.due("all are there", court.count(4), 10);
        check.due("no room for another", court.rule(0, 0, true, 1, -1), Check.LIMIT);
        for (int number = 0; number < 10; number++) {
            check.due("still overruled", court.overrule(number), Check.NOT_POSSIBLE);
        }
    }

    /** Ten rulings, each of which cites the one ahead. */
    private static CommaCourt chain() {
        CommaCourt court = new CommaCourt();
        for (int number = 0; number < 10; number++) {
            court.rule(number % 6, number / 6, true, 1, number - 1);
        }
        return court;
    }

    @Says("a ruling is in force, if it is not overruled, and cites none, or one that is in force")
    private static void force() {
        for (int overruled = 0; overruled < 10; overruled++) {
            CommaCourt court = chain();
            court.overrule(overruled);
            for (int number = 0; number < 10; number++) {
                check.due(number + " without " + overruled, court.ruling(number, 5), number < overruled ? 1 : 0);
            }
        }
        CommaCourt court = chain();
        court.overrule(8);
        check.due("overruled in a chain that falls behind it", court.overrule(4), 4);
        check.due("and nothing rises", court.count(5), 4);
    }

    @Says("of several rulings in force about the same kinds only the latest one counts")
    private static void latestCounts() {
        CommaCourt court = Check.courtWith("ab");
        court.rule(2, 2, true, 1, -1);
        court.rule(0, 1, true, 2, -1);
        court.rule(0, 1, true, 3, 0);
        court.rule(0, 1, true, 4, -1);
        check.due("the latest", court.edition(0, 5), 4);
        court.overrule(3);
        check.due("the latest but one that is overruled", court.edition(0, 5), 3);
        court.overrule(0);
        check.due("the latest but one that has fallen", court.edition(0, 5), 2);
        court.overrule(1);
        check.due("none", court.edition(0, 5), 0);
    }

    @Says("a gap is fined, if the ruling asks for a comma and there is none, or forbids it and there is one")
    private static void finedGaps() {
        CommaCourt court = Check.courtWith("ab", "a,b", "ba", "b,a");
        int[][] told = {{7, 0, 0, 0}, {0, 7, 0, 0}};
        for (int ruling = 0; ruling < 2; ruling++) {
            court.rule(0, 1, ruling == 0, 7, -1);
            for (int edition = 0; edition < 4; edition++) {
                check.due("edition " + edition, court.edition(edition, 5), told[ruling][edition]);
            }
        }
    }

    @Says("as much as the fine is (1 to 20)")
    private static void leastAndGreatestFine() {
        for (int fine : new int[] {1, 20}) {
            CommaCourt court = Check.courtWith("ab");
            court.rule(0, 1, true, fine, -1);
            check.due("fines", court.edition(0, 5), fine);
            check.due("the cost of an edition is that of its clauses and fines", court.edition(0, 6), 5 + fine);
        }
    }

    @Says("most fines: 11 gaps of 20")
    private static void mostFines() {
        CommaCourt court = Courts.withTwelveWords();
        court.rule(0, 0, true, 20, -1);
        check.due("fines", court.edition(0, 5), 220);
        check.due("cost", court.edition(0, 6), 224);
    }

    @Says("a suit is about a gap of an edition: the comma there comes, or goes")
    private static void commaComesOrGoes() {
        CommaCourt court = Courts.withTwelveWords();
        court.set(0, 1);
        check.due("in the first gap: 11 to 0 + 10", court.sue(0, 0), 11);
        check.due("in the last gap: 10 to 0 + 9 + 0", court.sue(0, 10), 11);
        check.due("two commas", court.edition(0, 1), 1025);
        court.set(0, 12);
        check.due("from the first gap: 11 + 2 + 11 to 1 + 11", court.sue(0, 0), 22);
        check.due("from the last gap: 1 + 11 to 0", court.sue(0, 10), 22);
        check.due("no comma", court.edition(0, 1), 0);
    }

    @Says("2: its cost would not be less")
    private static void notLess() {
        CommaCourt court = Check.courtWith("ab");
        // One clause of 3, or two of 1 and 2.
        court.set(0, 1);
        check.due("1 less: 2 to 0 + 1", court.whyNot(0, 0), 0);
        court.rule(0, 1, false, 1, -1);
        check.due("the same: 2 to 1 + 1", court.whyNot(0, 0), 2);
        court.rule(0, 1, false, 2, -1);
        check.due("1 more: 2 to 1 + 2", court.whyNot(0, 0), 2);
    }

    @Says("3: another edition has the same words, and the commas that it would have")
    private static void takenByAnother() {
        String[] others = {"a,b", "a,c", "b,a", "a,bb", "a,b,b", "a"};
        int[] reasons = {3, 0, 0, 0, 0, 0};
        for (int other = 0; other < others.length; other++) {
            CommaCourt court = Check.courtWith("ab", others[other]);
            court.set(0, 1);
            check.due("beside " + others[other], court.whyNot(0, 0), reasons[other]);
        }
        CommaCourt court = Check.courtWith("a,b", "ab");
        court.set(0, 1);
        check.due("one ahead of it", court.sue(1, 0), 3);
        court.drop(0);
        check.due("that is dropped then", court.sue(0, 0), 11);
    }

    @Says("it is refused for the first of these reasons that is so")
    private static void firstReason() {
        CommaCourt court = Check.courtWith("ab", "a,b");
        court.set(0, 1);
        check.due("3 alone", court.sue(0, 0), 3);
        court.set(0, 3);
        check.due("2 and 3", court.sue(0, 0), 2);
        court.stay(0, 1);
        check.due("1, 2 and 3", court.sue(0, 0), 1);
        court.set(0, 1);
        check.due("1 and 3", court.sue(0, 0), 1);
        court.drop(1);
        check.due("1 alone", court.sue(0, 0), 1);
        court.set(0, 3);
        check.due("1 and 2", court.sue(0, 0), 1);
        court.day();
        check.due("2 alone", court.sue(0, 0), 2);
        court.set(0, 1);
        check.due("none", court.sue(0, 0), 11);
    }

    @Says("an edition is stayed on all days before the day until which it is stayed (0 at first)")
    private static void stayedDays() {
        CommaCourt court = Check.courtWith("ab");
        check.due("at first", court.edition(0, 8), 0);
        check.due("not stayed on the day 0", court.edition(0, 7), 0);
        court.set(0, 1);
        court.stay(0, 30);
        for (int day = 0; day < 30; day++) {
            check.due("stayed on the day " + day, court.edition(0, 7), 1);
            check.due("whyNot() on the day " + day, court.whyNot(0, 0), 1);
            court.day();
        }
        check.due("not on the day 30", court.edition(0, 7), 0);
        check.due("whyNot() on the day 30", court.whyNot(0, 0), 0);
    }

    @Says("days are numbered from 0; a day passes by itself alone")
    private static void noOtherDays() {
        CommaCourt court = Courts.busy();
        int today = court.count(0);
        check.due("two days in plead()", today, 2);
        court.weight(0, 1);
        court.set(0, 8);
        court.rule(0, 0, true, 1, -1);
        court.overrule(0);
        court.print();
        court.drop(0);
        court.sue(0, 0);
        court.stay(0, 30);
        Check.type(court, "0:0;3:0");
        court.plead();
        court.save();
        court.restore();
        check.due("today", court.count(0), today);
    }

    @Says("the best commas are those with the least cost")
    private static void bestCost() {
        CommaCourt court = Check.courtWith("fff", "f,f,f", "fffffffffff");
        court.set(0, 18);
        check.due("no comma", court.best(0, 0, 0), 0);
        court.set(0, 6);
        check.due("all commas", court.best(0, 0, 0), 3);
        check.due("whatever stands", court.best(1, 0, 0), 3);
        check.due("all of eleven", court.best(2, 0, 0), 1023);
    }

    @Says("of several with the fewest commas")
    private static void bestOfFewestCommas() {
        // 12: 4; 6 and 6: 2 + 2.
        CommaCourt court = Check.courtWith("ff", "f,f");
        for (int way = 0; way < 2; way++) {
            check.due("ff", court.best(0, 0, way), 0);
            check.due("f,f", court.best(1, 0, way), 0);
        }
    }

    @Says("of these the least set of gaps as a number")
    private static void bestOfLeastSet() {
        // Twelve words of 1 and the balance 5: 7 in one clause, 2 in clauses of 5 and 7, 6 and 6, 7 and 5.
        CommaCourt court = Courts.withTwelveWords();
        court.set(0, 5);
        for (int way = 0; way < 2; way++) {
            check.due("the cost", court.best(0, 1, way), 2);
            check.due("one comma", court.best(0, 2, way), 1);
            check.due("in the gap 4, not 5 or 6", court.best(0, 0, way), 16);
        }
    }

    @Says("whether another edition has them or not")
    private static void bestThatIsTaken() {
        CommaCourt court = Check.courtWith("fff", "f,ff");
        for (int way = 0; way < 2; way++) {
            check.due("best", court.best(0, 0, way), 1);
        }
        check.due("though a suit is refused", court.whyNot(0, 0), 3);
    }

    @Says("no clause weighs more than HEAVY")
    private static void heavyClauses() {
        CommaCourt court = Check.courtWith("fde", "fdf");
        for (int way = 0; way < 2; way++) {
            check.due("15, just as heavy", court.ways(0, way), 4);
            check.due("16, too heavy", court.ways(1, way), 3);
        }
        court.weight(5, 9);
        court.set(1, 9);
        for (int way = 0; way < 2; way++) {
            check.due("a word of 9 with 9", court.ways(0, way), 2);
        }
    }

    @Says("BALANCE (1 to 30; 8), HEAVY (9 to 60; 15)")
    private static void settings() {
        Twins twins = new Twins(check, Courts::busy);
        twins.dueWithin("BALANCE", 1, 30, (court, value) -> court.set(CommaCourt.BALANCE, value));
        twins.dueWithin("HEAVY", 9, 60, (court, value) -> court.set(CommaCourt.HEAVY, value));
        CommaCourt court = new CommaCourt();
        check.due("BALANCE at first", court.set(CommaCourt.BALANCE, 1), 8);
        check.due("HEAVY at first", court.set(CommaCourt.HEAVY, 60), 15);
        check.due("the least BALANCE", court.count(10), 1);
        check.due("the greatest HEAVY", court.count(11), 60);
        court.set(CommaCourt.BALANCE, 30);
        court.set(CommaCourt.HEAVY, 9);
        check.due("the greatest BALANCE", court.count(10), 30);
        check.due("the least HEAVY", court.count(11), 9);
    }

    @Says("there is a pad of at most 60 characters, initially empty")
    private static void pad() {
        CommaCourt court = new CommaCourt();
        check.due("at first", court.count(13), 0);
        for (int length = 1; length <= 60; length++) {
            check.due("append()", court.append('+'), length);
        }
        check.due("one more", court.append('+'), Check.LIMIT);
        check.due("the length", court.count(13), 60);
    }
}
