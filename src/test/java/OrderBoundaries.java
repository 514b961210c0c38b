/** The boundaries of the two methods, of places and of ties. */
final class OrderBoundaries {
    private OrderBoundaries() {
    }

    static void all() {
        settings();
        setChecksInOrder();
        greatestAndLeastScores();
        scoresBelowNothing();
        groupChecksInOrder();
        groupRounds();
        numberOfRounds();
        roundsOfTwenty();
        roundChecksInOrder();
        roundsOfWishes();
        roundsOfThirdWishes();
        roundsForNone();
        roundsOfSeveral();
        roundsRankAllGroups();
        orderOfRounds();
        noTiesByRounds();
        tiesKept();
        tiesBrokenByFirstWishes();
        tiesBrokenByRanks();
        tiesBrokenByHeads();
        scoresAheadOfFirstWishes();
        places();
        rankedChecksInOrder();
        tiedGroups();
    }

    private static void settings() {
        Due.sentence(8, "The setting tells the method, 0 (at first) or 1, and how many places have prizes (0 to 5; at "
                + "first 3), and the tie rule, 0 (at first) or 1.");
        Contest x = new Contest();
        int[] first = {0, 3, 0};
        int[] most = {1, 5, 1};
        for (int what = 0; what < 3; what++) {
            Due.is("at first " + what, x.count(7 + what), first[what]);
            Due.is("so already " + what, x.set(what, first[what]), Due.NONE);
        }
        Due.sentence(8, "Returns the previous one; BAD_VALUE; NONE if it is so already.");
        for (int what = 0; what < 3; what++) {
            int previous = first[what];
            for (int value = 0; value <= most[what]; value++) {
                Due.is("set " + what, x.set(what, value), value == previous ? Due.NONE : previous);
                Due.is("told " + what, x.count(7 + what), value);
                previous = value;
            }
            Due.is("the most already " + what, x.set(what, most[what]), Due.NONE);
        }
        Due.is("the last of each", x.count(7) + x.count(8) + x.count(9), 7);
        Due.sentence(8, "- value: the new number");
        Due.is("the least places with prizes", x.set(1, 0), 5);
        Due.is("told", x.count(8), 0);
        Due.is("so already", x.set(1, 0), Due.NONE);
        Due.sentence(8, "Sets a setting. This is an act.");
        x.undo();
        Due.is("undo", x.count(8), 5);
    }

    private static void setChecksInOrder() {
        Due.sentence(8, "- what: 0 for the method (0 or 1), 1 for the places with prizes (0 to 5), 2 for the tie rule "
                + "(0 or 1)");
        Contest x = new Contest();
        int[] most = {1, 5, 1};
        for (int what = 0; what < 3; what++) {
            for (int value : new int[] {-1, most[what] + 1, Due.NONE, Due.LEAST, Due.MOST}) {
                Due.is("set " + what + " to " + value, x.set(what, value), Due.BAD_VALUE);
            }
        }
        for (int what : new int[] {-1, 3, Due.NONE, Due.LEAST, Due.MOST}) {
            for (int value = -1; value <= 6; value++) {
                Due.is("set " + what + " to " + value, x.set(what, value), Due.BAD_VALUE);
            }
        }
        Due.is("as at first", x.count(7) + 10 * x.count(8) + 100 * x.count(9), 30);
        Due.is("nothing is recorded", x.count(11), 0);
        Due.sentence(8, "BAD_VALUE = -2: Another argument is out of range.");
        Due.is("the constant", CaptionTallies.BAD_VALUE, -2);
    }

    private static void greatestAndLeastScores() {
        Due.sentence(17, "By the method 0 the score of a group is 10 times its points by ballots, less the sum of its "
                + "ranks by all judges.");
        Contest x = Contest.ofGroups(20);
        for (int visitor = 0; visitor < 12; visitor++) {
            x.vote(visitor, 19, 18, 17);
        }
        Due.is("the greatest score", x.group(19, 4), 1000 + 360 - 3);
        for (int judge = 0; judge < 3; judge++) {
            for (int caption = 1; caption < 20; caption++) {
                x.score(judge, caption, 1);
            }
        }
        Due.is("the greatest sum of ranks", x.group(0, 3), 60);
        Due.is("the least sum of ranks", x.group(19, 3), 3);
        Due.is("the least score", x.group(0, 4), 1000 - 60);
        Due.is("twelve second wishes", x.group(18, 4), 1000 + 240 - 3);
        Due.is("twelve third wishes", x.group(17, 4), 1000 + 120 - 3);
        Due.is("the last place but without ties", x.group(0, 5), 20);
        Due.is("the last of twenty", x.ranked(19), 0);
        Due.sentence(17, "3 for the sum of its ranks by all judges, 4 for its score by the method 0 plus 1000");
        x.set(0, 1);
        Due.is("by the method 0, whatever the setting is", x.group(0, 4), 940);
        Due.is("by the method 0, whatever the setting is", x.group(19, 4), 1357);
        x.score(1, 0, 1);
        Due.is("20 and 1 and 20", x.group(0, 3), 41);
    }

    private static void scoresBelowNothing() {
        Due.sentence(20, "Groups are ordered by their scores, the greatest first.");
        Contest x = Contest.of("a", "b", "c", "d");
        x.score(0, 3, 5);
        x.score(1, 3, 1);
        x.score(0, 1, 4);
        x.vote(0, 2, Due.NONE, Due.NONE);
        // sums of ranks: a 3 + 2 + 1, b 2 + 2 + 1, c 3 + 2 + 1, d 3
        Due.is("score of a", x.group(0, 4), 994);
        Due.is("score of b", x.group(1, 4), 995);
        Due.is("score of c", x.group(2, 4), 1024);
        Due.is("score of d", x.group(3, 4), 997);
        int[] order = {2, 3, 1, 0};
        for (int rank = 0; rank < 4; rank++) {
            Due.is("rank " + rank, x.ranked(rank), order[rank]);
            Due.is("its place", x.group(order[rank], 5), rank + 1);
        }
    }

    private static void groupChecksInOrder() {
        Due.sentence(17, "Returns the number; UNKNOWN; BAD_VALUE.");
        Contest x = Contest.of("a", "b");
        x.withdraw(1);
        for (int what : new int[] {-1, 8, 9, Due.NONE, Due.LEAST, Due.MOST}) {
            Due.is("what " + what, x.group(0, what), Due.BAD_VALUE);
            Due.is("unknown, what " + what, x.group(2, what), Due.UNKNOWN);
            Due.is("withdrawn, what " + what, x.group(1, what), Due.UNKNOWN);
        }
        Due.sentence(17, "- caption: a caption, for its group");
        for (int caption : new int[] {-1, Due.NONE, 1, 2, 20, Due.LEAST, Due.MOST}) {
            for (int what = 0; what <= 7; what++) {
                Due.is("caption " + caption + ", what " + what, x.group(caption, what), Due.UNKNOWN);
            }
        }
        Due.sentence(17, "- what: 0 for its captions (how many), 1 for its points by ballots, 2 for its first wishes (as "
                + "ballots are counted), 3 for the sum of its ranks by all judges, 4 for its score by the method 0 plus "
                + "1000, 5 for its place, 6 for what it gets, 7 for the round in which it is left out by the method 1 "
                + "(whatever the setting is; from 0; NONE for the one that is left)");
        int[] wants = {1, 0, 0, 3, 997, 1, 100, Due.NONE};
        for (int what = 0; what <= 7; what++) {
            Due.is("the only group, what " + what, x.group(0, what), wants[what]);
        }
        Contest y = Contest.ofAlike(20);
        Due.is("twenty captions", y.group(19, 0), 20);
    }

    private static void groupRounds() {
        Due.sentence(17, "7 for the round in which it is left out by the method 1 (whatever the setting is; from 0; NONE "
                + "for the one that is left)");
        Contest x = Contest.ofGroups(20);
        x.vote(0, 10, Due.NONE, Due.NONE);
        for (int method = 0; method < 2; method++) {
            Due.is("the first one", x.group(19, 7), 0);
            Due.is("the tenth one", x.group(11, 7), 8);
            Due.is("with a ballot", x.group(10, 7), Due.NONE);
            Due.is("the last round but one", x.group(1, 7), 17);
            Due.is("the last round", x.group(0, 7), 18);
            x.set(0, 1);
        }
        for (int caption = 1; caption < 20; caption++) {
            x.join(caption, 0);
        }
        Due.is("one group is left", x.group(5, 7), Due.NONE);
    }

    private static void numberOfRounds() {
        Due.sentence(21, "By the method 1 there are rounds, as long as there are two groups or more left");
        Contest x = new Contest();
        Due.is("no groups", x.round(0, 0), Due.NONE);
        x.submit(0, "a");
        Due.is("one group", x.round(0, 0), Due.NONE);
        Due.is("one group", x.round(0, 2), Due.NONE);
        x.submit(0, "A");
        Due.is("one group of two", x.round(0, 0), Due.NONE);
        x.submit(0, "b");
        Due.is("two groups", x.round(0, 0), 2);
        Due.is("one round", x.round(1, 0), Due.NONE);
        x.submit(0, "c");
        Due.is("three groups", x.round(1, 0), 2);
        Due.is("two rounds", x.round(2, 0), Due.NONE);
        x.join(3, 1);
        Due.is("two groups", x.round(0, 0), 2);
        Due.is("one round", x.round(1, 0), Due.NONE);
        x.withdraw(2);
        Due.is("one group", x.round(0, 0), Due.NONE);
    }

    private static void roundsOfTwenty() {
        Due.sentence(21, "as long as there are two groups or more left");
        Contest x = Contest.ofGroups(20);
        for (int visitor = 0; visitor < 12; visitor++) {
            x.vote(visitor, 19 - visitor, 0, Due.NONE);
        }
        for (int round = 0; round <= 6; round++) {
            Due.is("without ballots", x.round(round, 0), 7 - round);
            Due.is("its ballots", x.round(round, 1), 0);
            Due.is("none for none", x.round(round, 2), 0);
        }
        // 0 and 8 to 19 are left, each but 0 with one ballot
        Due.is("0 has none then", x.round(7, 0), 0);
        for (int round = 8; round <= 18; round++) {
            Due.is("with a ballot each", x.round(round, 0), 27 - round);
            Due.is("its ballots", x.round(round, 1), 1);
            Due.is("those before count for none", x.round(round, 2), round - 8);
        }
        Due.is("19 rounds", x.round(19, 0), Due.NONE);
        Due.is("8 is left", x.group(8, 7), Due.NONE);
    }

    private static void roundChecksInOrder() {
        Due.sentence(21, "Returns the number; BAD_VALUE (round is negative, or what); NONE if there are not so many.");
        Contest x = Contest.of("a", "b", "c");
        for (int what : new int[] {-1, 3, Due.NONE, Due.LEAST, Due.MOST}) {
            Due.is("what " + what, x.round(0, what), Due.BAD_VALUE);
            Due.is("what " + what + ", not so many", x.round(2, what), Due.BAD_VALUE);
            Due.is("what " + what + ", round", x.round(-1, what), Due.BAD_VALUE);
        }
        Due.sentence(21, "- round: a round, from 0");
        for (int what = 0; what < 3; what++) {
            for (int round : new int[] {-1, Due.NONE, Due.LEAST}) {
                Due.is("round " + round, x.round(round, what), Due.BAD_VALUE);
            }
            for (int round : new int[] {2, 3, 19, 20, Due.MOST}) {
                Due.is("round " + round, x.round(round, what), Due.NONE);
            }
        }
        Due.sentence(21, "- what: 0 for the head of the group that is left out, 1 for its ballots then, 2 for the ballots "
                + "of the 12 visitors that count for none then (empty ones too)");
        x.vote(0, 2, Due.NONE, Due.NONE);
        x.vote(11, 0, Due.NONE, Due.NONE);
        x.vote(5, 0, Due.NONE, Due.NONE);
        int[][] wants = {{1, 0, 9}, {2, 1, 9}};
        for (int round = 0; round < 2; round++) {
            for (int what = 0; what < 3; what++) {
                Due.is("round " + round + ", " + what, x.round(round, what), wants[round][what]);
            }
        }
        Due.sentence(21, "Tells the rounds of the method 1, whatever the setting is.");
        x.set(0, 1);
        Due.is("by the method 1", x.round(0, 0), 1);
        Due.is("by the method 1", x.round(1, 0), 2);
        Due.is("by the method 1", x.round(2, 0), Due.NONE);
    }

    private static void roundsOfWishes() {
        Due.sentence(21, "each ballot counts for the first of its wishes whose group is left (a ballot without one counts "
                + "for none); the group with the fewest ballots is left out");
        Contest x = Contest.of("a", "b", "c", "d", "D");
        x.vote(0, 0, 1, 4);
        x.vote(1, 1, 0, 3);
        x.vote(2, 1, Due.NONE, Due.NONE);
        for (int visitor = 3; visitor < 6; visitor++) {
            x.vote(visitor, 2, Due.NONE, Due.NONE);
            x.vote(visitor + 3, visitor == 3 ? 3 : 4, 2, Due.NONE);
        }
        Due.is("a with one ballot", x.round(0, 0), 0);
        Due.is("its ballots", x.round(0, 1), 1);
        // the ballot of 0 counts for b then, so that b, c and d have three each
        Due.is("of three the greatest head", x.round(1, 0), 3);
        Due.is("its ballots", x.round(1, 1), 3);
        // those of 6 to 8 count for c then, which has six
        Due.is("b with three", x.round(2, 0), 1);
        Due.is("its ballots", x.round(2, 1), 3);
        Due.is("c is left", x.group(2, 7), Due.NONE);
        x.vote(9, 0, Due.NONE, Due.NONE);
        x.vote(10, 0, Due.NONE, Due.NONE);
        // a has three, b two, c three, d three
        Due.is("b first", x.round(0, 0), 1);
        // the ballot of 1 counts for a then, that of 2 for none: a has four
        Due.is("then d", x.round(1, 0), 3);
        Due.is("that of 2 counts for none", x.round(1, 2), 2);
        Due.is("then a, against the six of c", x.round(2, 0), 0);
        Due.is("its ballots", x.round(2, 1), 4);
        x.withdraw(2);
        // without c: those of 3 to 5 count for none
        Due.is("b", x.round(0, 0), 1);
        Due.is("for none", x.round(0, 2), 4);
        Due.is("then d with three", x.round(1, 0), 3);
        Due.is("for none", x.round(1, 2), 5);
        Due.is("no third round", x.round(2, 2), Due.NONE);
    }

    private static void roundsOfThirdWishes() {
        Due.sentence(21, "each ballot counts for the first of its wishes whose group is left");
        Contest x = Contest.of("a", "b", "c", "d");
        x.vote(0, 3, 2, 1);
        x.vote(1, 0, Due.NONE, Due.NONE);
        x.vote(2, 0, Due.NONE, Due.NONE);
        x.vote(3, 1, Due.NONE, Due.NONE);
        Due.is("c without ballots", x.round(0, 0), 2);
        Due.is("d, of two with one ballot the greatest head", x.round(1, 0), 3);
        // the ballot of 0 counts for b then, its third wish, so that a and b have two each
        Due.is("b by its head", x.round(2, 0), 1);
        Due.is("its ballots", x.round(2, 1), 2);
        Due.is("no ballot is lost", x.round(2, 2), 8);
        x.vote(4, 1, Due.NONE, Due.NONE);
        Due.is("a with two against three", x.round(2, 0), 0);
        Due.is("b is left", x.group(1, 7), Due.NONE);
    }

    private static void roundsForNone() {
        Due.sentence(21, "(empty ones too)");
        Contest x = Contest.of("a", "b", "c");
        Due.is("all of them", x.round(0, 2), 12);
        Due.is("all of them", x.round(1, 2), 12);
        for (int visitor = 0; visitor < 12; visitor++) {
            x.vote(visitor, 2, 1, 0);
        }
        Due.is("none of them", x.round(0, 2), 0);
        Due.is("none of them", x.round(1, 2), 0);
        x.vote(11, 1, Due.NONE, Due.NONE);
        Due.is("a first", x.round(0, 0), 0);
        Due.is("b then", x.round(1, 0), 1);
        Due.is("with one ballot", x.round(1, 1), 1);
        x.vote(11, 0, Due.NONE, Due.NONE);
        Due.is("b first", x.round(0, 0), 1);
        Due.is("none of them", x.round(0, 2), 0);
        Due.is("a then", x.round(1, 0), 0);
        x.withdraw(0);
        Due.is("that of a withdrawn one", x.round(0, 2), 1);
    }

    private static void roundsOfSeveral() {
        Due.sentence(21, "of several the one with the greatest sum of ranks by all judges, of these the one with the "
                + "greatest head.");
        Contest x = Contest.of("a", "b", "c", "d");
        Due.is("the greatest head", x.round(0, 0), 3);
        Due.is("then", x.round(1, 0), 2);
        Due.is("then", x.round(2, 0), 1);
        x.score(2, 1, 1);
        x.score(2, 2, 1);
        x.score(2, 3, 1);
        Due.is("the greatest sum of ranks", x.round(0, 0), 0);
        Due.is("then the greatest head", x.round(1, 0), 3);
        x.score(0, 0, 9);
        // sums of ranks: a 1 + 1 + 4, the others 2 + 1 + 1
        Due.is("the sum over all judges", x.round(0, 0), 0);
        x.score(1, 0, 9);
        // sums of ranks: a 1 + 1 + 4, the others 2 + 2 + 1
        Due.is("the sum over all judges", x.round(0, 0), 0);
        x.score(2, 0, 1);
        // sums of ranks: a 3, the others 2 + 2 + 1
        Due.is("the greatest head", x.round(0, 0), 3);
        x.vote(0, 1, 2, 3);
        Due.is("those without ballots", x.round(0, 0), 3);
        Due.is("those without ballots", x.round(1, 0), 2);
        Due.is("without a ballot, the sum of ranks is less", x.round(2, 0), 0);
    }

    /** Groups that are left out are groups still: the ranks of the others stay as they were. */
    private static void roundsRankAllGroups() {
        Due.sentence(21, "The rank of a group by a judge is 1 plus the number of groups to which the judge gave more "
                + "points.");
        Due.sentence(21, "of several the one with the greatest sum of ranks by all judges");
        Contest x = Contest.of("a", "b", "c", "d");
        x.score(0, 1, 2);
        x.score(0, 2, 1);
        x.score(0, 3, 1);
        x.score(1, 0, 1);
        x.score(2, 0, 1);
        x.vote(0, 0, Due.NONE, Due.NONE);
        x.vote(1, 1, Due.NONE, Due.NONE);
        Due.is("ranks of a, 4 + 1 + 1", x.group(0, 3), 6);
        Due.is("ranks of b, 1 + 2 + 2", x.group(1, 3), 5);
        Due.is("d first", x.round(0, 0), 3);
        Due.is("then c", x.round(1, 0), 2);
        // of a and b alone, b would have the greater sum: 1 + 2 + 2 against 2 + 1 + 1
        Due.is("then a", x.round(2, 0), 0);
        Due.is("b is left", x.group(1, 7), Due.NONE);
        x.set(0, 1);
        Due.is("b ahead of all", x.ranked(0), 1);
        Due.is("a behind it", x.ranked(1), 0);
        x.withdraw(2);
        x.withdraw(3);
        // withdrawn ones are in no group, so that a and b are all groups there are
        Due.is("ranks of a, 2 + 1 + 1", x.group(0, 3), 4);
        Due.is("ranks of b, 1 + 2 + 2", x.group(1, 3), 5);
        Due.is("b is left out", x.round(0, 0), 1);
    }

    private static void orderOfRounds() {
        Due.sentence(20, "Groups are ordered by the rounds in which they were left out, the latest one first, and the one "
                + "that is left ahead of all.");
        Contest x = Contest.ofGroups(20);
        x.vote(0, 7, Due.NONE, Due.NONE);
        x.set(0, 1);
        // left out are 19 to 8 and 6 to 0, so that 7 is left and 0 is next to it
        Due.is("the one that is left", x.ranked(0), 7);
        Due.is("its place", x.group(7, 5), 1);
        for (int rank = 1; rank < 20; rank++) {
            int head = rank <= 7 ? rank - 1 : rank;
            Due.is("rank " + rank, x.ranked(rank), head);
            Due.is("place of " + head, x.group(head, 5), rank + 1);
        }
        Due.is("no more", x.ranked(20), Due.NONE);
        Contest y = Contest.of("a");
        y.set(0, 1);
        Due.is("the only one", y.ranked(0), 0);
        Due.is("its place", y.group(0, 5), 1);
        Due.is("what it gets", y.group(0, 6), 100);
        y.withdraw(0);
        Due.is("none", y.ranked(0), Due.NONE);
    }

    private static void noTiesByRounds() {
        Due.sentence(20, "(By the method 1 there are no ties.)");
        Contest x = Contest.ofGroups(20);
        Due.is("all tie by the method 0", x.count(10), 20);
        for (int rule = 0; rule < 2; rule++) {
            x.set(0, 1);
            x.set(2, rule);
            Due.is("no ties", x.count(10), 0);
            for (int head = 0; head < 20; head++) {
                Due.is("place of " + head, x.group(head, 5), head + 1);
                Due.is("rank of " + head, x.ranked(head), head);
            }
            Due.is("the first prize is not shared", x.group(0, 6), 100);
            Due.is("the third place", x.group(2, 6), 20);
            Due.is("the fourth place", x.group(3, 6), 0);
        }
    }

    private static void tiesKept() {
        Due.sentence(20, "A tie is of groups with the same score by the method 0");
        Due.sentence(20, "by the tie rule 0 it is kept.");
        Contest x = Contest.of("a", "b", "c", "d", "e");
        x.vote(0, 4, Due.NONE, Due.NONE);
        x.vote(1, 2, 1, Due.NONE);
        // e and c have 30 - 3, b has 20 - 3, a and d have -3
        int[] order = {2, 4, 1, 0, 3};
        int[] places = {1, 1, 3, 4, 4};
        Due.sentence(20, "Groups that tie are told by their heads, the lowest first.");
        for (int rank = 0; rank < 5; rank++) {
            Due.is("rank " + rank, x.ranked(rank), order[rank]);
            Due.is("place of " + order[rank], x.group(order[rank], 5), places[rank]);
        }
        Due.is("tied", x.count(10), 4);
        x.score(0, 4, 1);
        // c's rank by the judge 0 is 2 then: one less is no tie
        Due.is("e ahead of c", x.ranked(0), 4);
        Due.is("c behind it", x.group(2, 5), 2);
        Due.is("tied", x.count(10), 2);
    }

    /** Twenty groups, of which one has ranks of 20, 20 and 13, and another one has ranks of 1. */
    private static Contest ofRanks53And3(int low, int high) {
        Contest x = Contest.ofGroups(20);
        int ahead = 0;
        for (int caption = 0; caption < 20; caption++) {
            if (caption != low) {
                x.score(0, caption, caption == high ? 10 : 5);
                x.score(1, caption, caption == high ? 10 : 5);
            }
            if (caption == high || caption != low && ahead < 11) {
                x.score(2, caption, caption == high ? 10 : 5);
                ahead += caption == high ? 0 : 1;
            }
        }
        Due.is("sum of ranks", x.group(low, 3), 53);
        Due.is("sum of ranks", x.group(high, 3), 3);
        return x;
    }

    private static void tiesBrokenByFirstWishes() {
        Due.sentence(20, "by the tie rule 1 it is broken: by more first wishes, then by the less sum of ranks, then by the "
                + "lower head");
        Contest x = ofRanks53And3(19, 0);
        for (int visitor = 0; visitor < 3; visitor++) {
            x.vote(visitor, 19, Due.NONE, Due.NONE);
        }
        x.vote(3, 5, 0, Due.NONE);
        x.vote(4, 5, 0, Due.NONE);
        // 19 has 9 points, three first wishes and 53; 0 has 4 points, no first wish and 3; 5 has 6 points
        Due.is("score of 19", x.group(19, 4), 1037);
        Due.is("score of 0", x.group(0, 4), 1037);
        Due.is("they tie", x.group(19, 5), 2);
        Due.is("the lowest head first", x.ranked(1), 0);
        x.set(2, 1);
        Due.is("5 by its score", x.ranked(0), 5);
        Due.is("by more first wishes", x.ranked(1), 19);
        Due.is("though its ranks and its head are greater", x.ranked(2), 0);
        Due.is("place", x.group(19, 5), 2);
        Due.is("place", x.group(0, 5), 3);
        x.vote(0, 5, 19, Due.NONE);
        x.vote(1, 5, 19, Due.NONE);
        x.vote(5, 5, 19, Due.NONE);
        // 19 has 9 points, one first wish and 53 then
        Due.is("score of 19", x.group(19, 4), 1037);
        Due.is("first wishes of 19", x.group(19, 2), 1);
        Due.is("one first wish more is enough", x.ranked(1), 19);
        x.vote(2, 5, 19, Due.NONE);
        x.vote(6, 5, 6, 19);
        Due.is("score of 19", x.group(19, 4), 1037);
        Due.is("without a first wish 0 is ahead by its ranks", x.ranked(1), 0);
    }

    private static void tiesBrokenByRanks() {
        Due.sentence(20, "then by the less sum of ranks");
        Contest x = ofRanks53And3(0, 19);
        x.vote(0, 0, Due.NONE, Due.NONE);
        x.vote(1, 5, 0, 19);
        x.vote(2, 5, 0, Due.NONE);
        x.vote(3, 6, 0, Due.NONE);
        x.vote(4, 19, Due.NONE, Due.NONE);
        // 0 has 9 points, one first wish and 53; 19 has 4 points, one first wish and 3
        Due.is("score of 0", x.group(0, 4), 1037);
        Due.is("score of 19", x.group(19, 4), 1037);
        Due.is("first wishes of 0", x.group(0, 2), 1);
        Due.is("first wishes of 19", x.group(19, 2), 1);
        Due.is("5 by its score", x.ranked(0), 5);
        Due.is("the lowest head first", x.ranked(1), 0);
        Due.is("they tie", x.group(19, 5), 2);
        x.set(2, 1);
        Due.is("5 by its score", x.ranked(0), 5);
        Due.is("by the less sum of ranks", x.ranked(1), 19);
        Due.is("though its head is greater", x.ranked(2), 0);
        Due.is("place", x.group(0, 5), 3);
    }

    private static void tiesBrokenByHeads() {
        Due.sentence(20, "then by the lower head");
        Contest x = Contest.ofGroups(20);
        x.set(2, 1);
        x.vote(0, 18, Due.NONE, Due.NONE);
        x.vote(1, 19, Due.NONE, Due.NONE);
        int[] order = {18, 19, 0, 1, 2, 3, 4, 5, 6, 7, 8, 9, 10, 11, 12, 13, 14, 15, 16, 17};
        for (int rank = 0; rank < 20; rank++) {
            Due.is("rank " + rank, x.ranked(rank), order[rank]);
            Due.is("place of " + order[rank], x.group(order[rank], 5), rank + 1);
        }
        Due.is("no ties", x.count(10), 0);
        Due.is("the first prize is not shared", x.group(18, 6), 100);
        x.set(2, 0);
        Due.is("they tie", x.count(10), 20);
        Due.is("place", x.group(19, 5), 1);
        Due.is("place", x.group(17, 5), 3);
    }

    private static void scoresAheadOfFirstWishes() {
        Due.sentence(20, "with the same score by the method 0; by the tie rule 1 it is broken");
        Contest x = Contest.of("a", "b", "c");
        x.set(2, 1);
        for (int visitor = 0; visitor < 12; visitor++) {
            x.vote(visitor, visitor < 8 ? 0 : 2, 1, Due.NONE);
        }
        // 24 points each: a by 8 first wishes, b by 12 second ones
        Due.is("score of a", x.group(0, 4), 1237);
        Due.is("score of b", x.group(1, 4), 1237);
        Due.is("a by its first wishes", x.ranked(0), 0);
        x.score(0, 1, 1);
        Due.is("score of a, one less", x.group(0, 4), 1236);
        Due.is("b by its score", x.ranked(0), 1);
        Due.is("a behind it", x.ranked(1), 0);
    }

    private static void places() {
        Due.sentence(17, "The place of a group is 1 plus the number of groups ahead of it; groups that tie have the same "
                + "place.");
        Contest x = Contest.ofGroups(20);
        for (int head = 0; head < 20; head++) {
            Due.is("all tie", x.group(head, 5), 1);
        }
        for (int visitor = 0; visitor < 9; visitor++) {
            x.vote(visitor, visitor, Due.NONE, Due.NONE);
        }
        Due.is("nine tie", x.group(8, 5), 1);
        Due.is("nine are ahead", x.group(9, 5), 10);
        Due.is("nine are ahead", x.group(19, 5), 10);
        x.vote(9, 19, 18, Due.NONE);
        Due.is("ten tie", x.group(19, 5), 1);
        Due.is("ten are ahead", x.group(18, 5), 11);
        Due.is("eleven are ahead", x.group(9, 5), 12);
        x.join(0, 1);
        Due.is("a joined one is alone", x.group(1, 5), 1);
        Due.is("one group is ahead", x.group(2, 5), 2);
    }

    private static void rankedChecksInOrder() {
        Due.sentence(20, "Returns the head; BAD_VALUE if rank is negative; NONE if there are not so many.");
        Contest x = new Contest();
        Due.is("no groups", x.ranked(0), Due.NONE);
        Due.is("no groups", x.ranked(-1), Due.BAD_VALUE);
        x.submit(0, "a");
        x.submit(0, "A");
        for (int method = 0; method < 2; method++) {
            Due.is("the only group", x.ranked(0), 0);
            for (int rank : new int[] {1, 2, 19, 20, Due.MOST}) {
                Due.is("rank " + rank, x.ranked(rank), Due.NONE);
            }
            for (int rank : new int[] {-1, -2, Due.NONE, Due.LEAST}) {
                Due.is("rank " + rank, x.ranked(rank), Due.BAD_VALUE);
            }
            x.set(0, 1);
        }
        Due.sentence(20, "- rank: a rank, from 0");
        x.withdraw(0);
        Due.is("the head then", x.ranked(0), 1);
        x.withdraw(1);
        Due.is("none", x.ranked(0), Due.NONE);
        Due.sentence(20, "Tells the groups in their order.");
        Contest y = Contest.ofGroups(20);
        for (int rank = 0; rank < 20; rank++) {
            Due.is("rank " + rank, y.ranked(rank), rank);
        }
        Due.is("not so many", y.ranked(20), Due.NONE);
    }

    private static void tiedGroups() {
        Due.sentence(25, "10 for groups that tie with another one for a place");
        Contest x = new Contest();
        Due.is("no groups", x.count(10), 0);
        x.submit(0, "a");
        Due.is("one group", x.count(10), 0);
        x.submit(0, "b");
        Due.is("two groups", x.count(10), 2);
        x.submit(0, "c");
        x.submit(0, "d");
        x.submit(0, "e");
        Due.is("five in one place", x.count(10), 5);
        x.vote(0, 4, Due.NONE, Due.NONE);
        Due.is("one ahead", x.count(10), 4);
        x.vote(1, 3, Due.NONE, Due.NONE);
        Due.is("two in one place, three in another one", x.count(10), 5);
        x.vote(2, 3, 2, Due.NONE);
        Due.is("two alike ones in the last place", x.count(10), 2);
        x.vote(3, 0, Due.NONE, Due.NONE);
        Due.is("0 with 4 in the second place", x.count(10), 2);
        x.vote(4, 2, Due.NONE, Due.NONE);
        x.vote(5, 3, Due.NONE, Due.NONE);
        x.set(2, 1);
        Due.is("the tie rule 1", x.count(10), 0);
        x.set(2, 0);
        x.set(0, 1);
        Due.is("the method 1", x.count(10), 0);
        Contest y = Contest.of("a", "b", "c", "d");
        Due.is("four tie", y.count(10), 4);
        y.withdraw(3);
        Due.is("without the withdrawn one", y.count(10), 3);
        y.join(0, 2);
        Due.is("a group counts once", y.count(10), 2);
        y.withdraw(1);
        Due.is("the only group", y.count(10), 0);
    }
}
