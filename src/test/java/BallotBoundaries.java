/** The boundaries of ballots and of the judges' points. */
final class BallotBoundaries {
    private BallotBoundaries() {
    }

    static void all() {
        twelveVisitors();
        threeWishes();
        voteChecksInOrder();
        voteOnceMore();
        voteInPlace();
        counted();
        countedOfWithdrawnOnes();
        ballotChecksInOrder();
        pointsByBallots();
        threeJudges();
        zeroToTenPoints();
        scoreChecksInOrder();
        pointsOfGroups();
        pointsOfWithdrawnOnes();
        ranks();
        ranksOfTwenty();
        judgedChecksInOrder();
    }

    private static void twelveVisitors() {
        Due.sentence(6, "There are 12 visitors, numbered from 0");
        Contest x = Contest.of("a", "b");
        for (int visitor = 0; visitor < 12; visitor++) {
            Due.is("vote of " + visitor, x.vote(visitor, visitor % 2, Due.NONE, Due.NONE), 1);
        }
        for (int visitor = 0; visitor < 12; visitor++) {
            Due.is("wish of " + visitor, x.ballot(visitor, 0, false), visitor % 2);
        }
        Due.sentence(6, "- visitor: 0 to 11");
        for (int visitor : new int[] {-1, 12, 13, Due.NONE, Due.LEAST, Due.MOST}) {
            Due.is("vote of " + visitor, x.vote(visitor, 0, Due.NONE, Due.NONE), Due.UNKNOWN);
        }
        Due.sentence(19, "- visitor: 0 to 11");
        for (int visitor : new int[] {-1, 12, 13, Due.NONE, Due.LEAST, Due.MOST}) {
            Due.is("ballot of " + visitor, x.ballot(visitor, 0, false), Due.UNKNOWN);
            Due.is("counted ballot of " + visitor, x.ballot(visitor, 0, true), Due.UNKNOWN);
        }
    }

    private static void threeWishes() {
        Due.sentence(6, "each with a ballot of at most three wishes (captions, the first wish first; empty at first).");
        Contest x = Contest.of("a", "b", "c", "d");
        for (int visitor = 0; visitor < 12; visitor++) {
            for (int wish = 0; wish < 3; wish++) {
                Due.is("at first", x.ballot(visitor, wish, false), Due.NONE);
                Due.is("counted at first", x.ballot(visitor, wish, true), Due.NONE);
            }
        }
        Due.sentence(6, "Returns how many wishes it has then");
        Due.is("one", x.vote(5, 3, Due.NONE, Due.NONE), 1);
        Due.is("two", x.vote(5, 3, 0, Due.NONE), 2);
        Due.is("three", x.vote(5, 3, 0, 2), 3);
        Due.is("the first wish", x.ballot(5, 0, false), 3);
        Due.is("the second wish", x.ballot(5, 1, false), 0);
        Due.is("the third wish", x.ballot(5, 2, false), 2);
        Due.is("none", x.vote(5, Due.NONE, Due.NONE, Due.NONE), 0);
        Due.is("emptied", x.ballot(5, 0, false), Due.NONE);
        Due.is("emptied", x.ballot(5, 2, false), Due.NONE);
        Due.sentence(6, "- first: a caption, or NONE");
        Due.sentence(6, "- second: a caption, or NONE");
        Due.sentence(6, "- third: a caption, or NONE");
        for (int none : new int[] {-1, -2, -3, -4, -6, 4, 19, 20, Due.LEAST, Due.MOST}) {
            Due.is("first " + none, x.vote(5, none, Due.NONE, Due.NONE), Due.UNKNOWN);
            Due.is("second " + none, x.vote(5, 0, none, Due.NONE), Due.UNKNOWN);
            Due.is("third " + none, x.vote(5, 0, 1, none), Due.UNKNOWN);
        }
        Due.is("the first and the last caption", x.vote(5, 0, 3, Due.NONE), 2);
    }

    private static void voteChecksInOrder() {
        Due.sentence(6, "UNKNOWN (visitor, or any caption); BAD_VALUE if a caption is told behind a NONE, or twice");
        Contest x = Contest.of("a", "b", "c", "d");
        x.withdraw(3);
        Due.is("visitor, behind a NONE", x.vote(12, Due.NONE, 0, Due.NONE), Due.UNKNOWN);
        Due.is("visitor, twice", x.vote(-1, 0, 0, Due.NONE), Due.UNKNOWN);
        Due.is("first, twice", x.vote(0, 4, 4, Due.NONE), Due.UNKNOWN);
        Due.is("first, twice", x.vote(0, 4, 0, 0), Due.UNKNOWN);
        Due.is("second, behind a NONE", x.vote(0, Due.NONE, 4, Due.NONE), Due.UNKNOWN);
        Due.is("third, behind a NONE", x.vote(0, Due.NONE, Due.NONE, 4), Due.UNKNOWN);
        Due.is("third, twice", x.vote(0, 1, 1, 4), Due.UNKNOWN);
        Due.is("withdrawn, behind a NONE", x.vote(0, Due.NONE, 3, Due.NONE), Due.UNKNOWN);
        Due.is("withdrawn, twice", x.vote(0, 3, 1, 3), Due.UNKNOWN);
        Due.is("second behind a NONE", x.vote(0, Due.NONE, 0, Due.NONE), Due.BAD_VALUE);
        Due.is("third behind two", x.vote(0, Due.NONE, Due.NONE, 0), Due.BAD_VALUE);
        Due.is("third behind one", x.vote(0, 1, Due.NONE, 0), Due.BAD_VALUE);
        Due.is("both behind one", x.vote(0, Due.NONE, 1, 0), Due.BAD_VALUE);
        Due.is("first and second", x.vote(0, 0, 0, Due.NONE), Due.BAD_VALUE);
        Due.is("first and second of three", x.vote(0, 0, 0, 1), Due.BAD_VALUE);
        Due.is("first and third", x.vote(0, 0, 1, 0), Due.BAD_VALUE);
        Due.is("first and third around a NONE", x.vote(0, 0, Due.NONE, 0), Due.BAD_VALUE);
        Due.is("second and third", x.vote(0, 1, 0, 0), Due.BAD_VALUE);
        Due.is("second and third behind a NONE", x.vote(0, Due.NONE, 0, 0), Due.BAD_VALUE);
        Due.is("all three", x.vote(0, 2, 2, 2), Due.BAD_VALUE);
        Due.is("nothing was filled in", x.ballot(0, 0, false), Due.NONE);
        Due.is("two NONE are no caption told twice", x.vote(0, 2, Due.NONE, Due.NONE), 1);
    }

    private static void voteOnceMore() {
        Due.sentence(6, "NONE if the ballot was filled in so already.");
        Contest x = Contest.of("a", "b", "c", "A");
        Due.is("an empty one emptied", x.vote(11, Due.NONE, Due.NONE, Due.NONE), Due.NONE);
        Due.is("visitor, so already", x.vote(12, Due.NONE, Due.NONE, Due.NONE), Due.UNKNOWN);
        Due.is("filled in", x.vote(11, 0, 1, 2), 3);
        Due.is("so already", x.vote(11, 0, 1, 2), Due.NONE);
        Due.is("by another visitor", x.vote(10, 0, 1, 2), 3);
        Due.is("another first one", x.vote(11, 3, 1, 2), 3);
        Due.is("another second one", x.vote(11, 3, 0, 2), 3);
        Due.is("another third one", x.vote(11, 3, 0, 1), 3);
        Due.is("without the third one", x.vote(11, 3, 0, Due.NONE), 2);
        Due.is("so already", x.vote(11, 3, 0, Due.NONE), Due.NONE);
        Due.is("without the second one", x.vote(11, 3, Due.NONE, Due.NONE), 1);
        Due.is("so already", x.vote(11, 3, Due.NONE, Due.NONE), Due.NONE);
        Due.is("emptied", x.vote(11, Due.NONE, Due.NONE, Due.NONE), 0);
        Due.is("so already", x.vote(11, Due.NONE, Due.NONE, Due.NONE), Due.NONE);
        x.withdraw(1);
        Due.is("so already, but withdrawn", x.vote(10, 0, 1, 2), Due.UNKNOWN);
        Due.is("as it is counted, but not as it was filled in", x.vote(10, 0, 2, Due.NONE), 2);
    }

    private static void voteInPlace() {
        Due.sentence(6, "Fills in the ballot of a visitor, in the place of what it was. This is an act.");
        Contest x = Contest.of("a", "b", "c");
        x.vote(0, 0, 1, 2);
        Due.is("one wish", x.vote(0, 2, Due.NONE, Due.NONE), 1);
        Due.is("first", x.ballot(0, 0, false), 2);
        Due.is("the second one is gone", x.ballot(0, 1, false), Due.NONE);
        Due.is("the third one is gone", x.ballot(0, 2, false), Due.NONE);
        Due.is("the points of its second one are gone", x.group(1, 1), 0);
        Due.is("an act", x.undo(), 3);
        Due.is("first", x.ballot(0, 0, false), 0);
        Due.is("third", x.ballot(0, 2, false), 2);
    }

    private static void counted() {
        Due.sentence(19, "When ballots are counted, of each ballot the wishes that are withdrawn are left out, and those "
                + "whose group has an earlier wish in the ballot; the others move up.");
        Contest x = Contest.of("a", "A", "aa", "b", "c");
        x.join(2, 1);
        x.vote(0, 2, 0, 1);
        x.vote(1, 3, 1, 2);
        x.vote(2, 1, 3, 0);
        x.vote(3, 1, 2, 4);
        x.vote(4, 4, 3, 0);
        int[][] wants = {{2, -5, -5}, {3, 1, -5}, {1, 3, -5}, {1, 4, -5}, {4, 3, 0}, {-5, -5, -5}};
        for (int visitor = 0; visitor < wants.length; visitor++) {
            for (int wish = 0; wish < 3; wish++) {
                Due.is("counted " + visitor + ", " + wish, x.ballot(visitor, wish, true), wants[visitor][wish]);
            }
        }
        Due.sentence(19, "- counted: whether it is told as it is counted (left out ones gone), otherwise as it was filled "
                + "in (withdrawn captions too)");
        Due.is("filled in", x.ballot(0, 1, false), 0);
        Due.is("filled in", x.ballot(0, 2, false), 1);
        Due.is("filled in", x.ballot(3, 1, false), 2);
        x.part(2);
        Due.is("parted ones count both", x.ballot(0, 0, true), 2);
        Due.is("parted ones count both", x.ballot(0, 1, true), 0);
        Due.is("alike ones count once", x.ballot(0, 2, true), Due.NONE);
    }

    private static void countedOfWithdrawnOnes() {
        Due.sentence(19, "(withdrawn captions too)");
        Contest x = Contest.of("a", "b", "c", "A");
        x.vote(0, 0, 1, 2);
        x.vote(1, 1, 0, 3);
        x.vote(2, 0, Due.NONE, Due.NONE);
        x.withdraw(0);
        Due.is("the first one is left out", x.ballot(0, 0, true), 1);
        Due.is("the third one moves up", x.ballot(0, 1, true), 2);
        Due.is("no third one", x.ballot(0, 2, true), Due.NONE);
        Due.is("a withdrawn one's group has no earlier wish", x.ballot(1, 1, true), 3);
        Due.is("none is left", x.ballot(2, 0, true), Due.NONE);
        Due.is("filled in", x.ballot(0, 0, false), 0);
        Due.is("filled in", x.ballot(2, 0, false), 0);
        x.withdraw(1);
        x.withdraw(2);
        Due.is("all left out", x.ballot(0, 0, true), Due.NONE);
        Due.is("filled in", x.ballot(0, 2, false), 2);
        Due.is("one ballot counts", x.count(4), 1);
    }

    private static void ballotChecksInOrder() {
        Due.sentence(19, "Returns the caption; UNKNOWN (visitor); BAD_VALUE (wish); NONE if there is none.");
        Contest x = Contest.of("a", "b");
        x.vote(0, 1, 0, Due.NONE);
        x.vote(11, 1, 0, Due.NONE);
        for (int wish : new int[] {-1, 3, Due.NONE, Due.LEAST, Due.MOST}) {
            Due.is("visitor, wish " + wish, x.ballot(12, wish, false), Due.UNKNOWN);
            Due.is("visitor, wish " + wish, x.ballot(-1, wish, true), Due.UNKNOWN);
            for (int visitor = 0; visitor < 12; visitor++) {
                Due.is("wish " + wish, x.ballot(visitor, wish, false), Due.BAD_VALUE);
                Due.is("counted wish " + wish, x.ballot(visitor, wish, true), Due.BAD_VALUE);
            }
        }
        Due.sentence(19, "- wish: 0 to 2");
        Due.is("wish 0", x.ballot(11, 0, true), 1);
        Due.is("wish 1", x.ballot(11, 1, true), 0);
        Due.is("wish 2", x.ballot(11, 2, true), Due.NONE);
        Due.is("wish 2", x.ballot(11, 2, false), Due.NONE);
    }

    private static void pointsByBallots() {
        Due.sentence(17, "A group gets 3 points for a first wish, 2 for a second one, 1 for a third one.");
        Contest x = Contest.of("a", "b", "c", "A");
        x.vote(0, 0, 1, 2);
        Due.is("first", x.group(0, 1), 3);
        Due.is("second", x.group(1, 1), 2);
        Due.is("third", x.group(2, 1), 1);
        x.vote(0, 0, 3, 2);
        Due.is("of two of a group the first alone", x.group(3, 1), 3);
        Due.is("no wish", x.group(1, 1), 0);
        Due.is("moved up", x.group(2, 1), 2);
        for (int visitor = 0; visitor < 12; visitor++) {
            x.vote(visitor, 3, 1, 2);
        }
        Due.is("the most", x.group(0, 1), 36);
        Due.is("twelve second ones", x.group(1, 1), 24);
        Due.is("twelve third ones", x.group(2, 1), 12);
        Due.sentence(17, "2 for its first wishes (as ballots are counted)");
        Due.is("the most", x.group(0, 2), 12);
        Due.is("none", x.group(1, 2), 0);
        x.withdraw(3);
        Due.is("second ones move up to first ones", x.group(1, 2), 12);
        Due.is("without a wish", x.group(0, 2), 0);
        Due.is("points", x.group(1, 1), 36);
        Due.is("points", x.group(2, 1), 24);
    }

    private static void threeJudges() {
        Due.sentence(7, "There are 3 judges, numbered from 0.");
        Contest x = Contest.of("a", "b");
        for (int judge = 0; judge < 3; judge++) {
            Due.is("judge " + judge, x.score(judge, 1, 4 + judge), 1);
        }
        for (int judge = 0; judge < 3; judge++) {
            Due.is("judge " + judge, x.judged(judge, 1, 0), 4 + judge);
        }
        Due.sentence(7, "- judge: 0 to 2");
        for (int judge : new int[] {-1, 3, Due.NONE, Due.LEAST, Due.MOST}) {
            Due.is("judge " + judge, x.score(judge, 0, 1), Due.UNKNOWN);
        }
        Due.sentence(18, "- judge: 0 to 2");
        for (int judge : new int[] {-1, 3, Due.NONE, Due.LEAST, Due.MOST}) {
            for (int what = 0; what < 3; what++) {
                Due.is("judge " + judge, x.judged(judge, 0, what), Due.UNKNOWN);
            }
        }
    }

    private static void zeroToTenPoints() {
        Due.sentence(7, "A judge gives a caption 0 to 10 points, or none (at first)");
        Contest x = Contest.of("a", "b");
        for (int judge = 0; judge < 3; judge++) {
            Due.is("none at first", x.judged(judge, 1, 0), Due.NONE);
        }
        Due.sentence(7, "- points: 0 to 10");
        for (int points = 0; points <= 10; points++) {
            Due.is(points + " points", x.score(2, 1, points), 1);
            Due.is("told", x.judged(2, 1, 0), points);
        }
        for (int points : new int[] {-1, 11, Due.NONE, Due.LEAST, Due.MOST}) {
            Due.is(points + " points", x.score(2, 1, points), Due.BAD_VALUE);
        }
        Due.is("the last ones", x.judged(2, 1, 0), 10);
        Due.sentence(7, "NONE if the judge gave it so many already.");
        Due.is("ten already", x.score(2, 1, 10), Due.NONE);
        Due.is("none are not 0", x.score(0, 1, 0), 1);
        Due.is("0 already", x.score(0, 1, 0), Due.NONE);
        Due.is("another judge", x.score(1, 1, 10), 1);
        Due.is("another caption", x.score(2, 0, 10), 1);
        Due.sentence(7, "Gives a judge's points to a caption. This is an act.");
        Due.is("states", x.count(11), 4);
        x.undo();
        Due.is("none again", x.judged(2, 0, 0), Due.NONE);
        Due.is("the other one's", x.judged(2, 1, 0), 10);
    }

    private static void scoreChecksInOrder() {
        Due.sentence(7, "Returns the rank of its group by this judge then; UNKNOWN (judge or caption); BAD_VALUE");
        Contest x = Contest.of("a", "b", "c", "A");
        Due.is("judge, points", x.score(3, 0, 11), Due.UNKNOWN);
        Due.is("judge, points", x.score(-1, 0, -1), Due.UNKNOWN);
        Due.is("caption, points", x.score(0, 4, 11), Due.UNKNOWN);
        Due.is("caption, points", x.score(0, -1, -1), Due.UNKNOWN);
        Due.is("judge, caption, points", x.score(3, 4, 11), Due.UNKNOWN);
        Due.is("given", x.score(1, 2, 6), 1);
        Due.is("a caption below", x.score(1, 1, 5), 2);
        Due.is("an alike one lower still", x.score(1, 3, 0), 3);
        Due.is("the same as the second one", x.score(1, 0, 5), 2);
        Due.is("less for one, but not for its group", x.score(1, 3, 1), 2);
        Due.is("less for its group", x.score(1, 0, 2), 3);
        x.withdraw(2);
        Due.is("withdrawn", x.score(1, 2, 5), Due.UNKNOWN);
        Due.is("withdrawn, points", x.score(1, 2, 11), Due.UNKNOWN);
        Due.is("withdrawn, so many already", x.score(1, 2, 6), Due.UNKNOWN);
        Due.sentence(7, "- caption: a caption");
        for (int caption : new int[] {-1, Due.NONE, 2, 4, 19, 20, Due.LEAST, Due.MOST}) {
            for (int judge = 0; judge < 3; judge++) {
                Due.is("caption " + caption, x.score(judge, caption, 1), Due.UNKNOWN);
            }
        }
    }

    private static void pointsOfGroups() {
        Due.sentence(18, "the points of a judge for a group are the most that the judge gave to any of its captions, 0 if "
                + "none.");
        Contest x = Contest.of("a", "A", "a!", "b");
        Due.is("none", x.judged(0, 0, 1), 0);
        x.score(0, 1, 0);
        Due.is("0", x.judged(0, 0, 1), 0);
        x.score(0, 2, 3);
        x.score(0, 0, 2);
        Due.is("the most", x.judged(0, 0, 1), 3);
        Due.is("the most, told by another", x.judged(0, 1, 1), 3);
        Due.is("none by another judge", x.judged(1, 0, 1), 0);
        Due.is("none of another group", x.judged(0, 3, 1), 0);
        Due.sentence(18, "0 for the points that the judge gave it (NONE without), 1 for the judge's points for its group, "
                + "2 for the rank of its group by the judge");
        Due.is("its own", x.judged(0, 0, 0), 2);
        Due.is("its own 0", x.judged(0, 1, 0), 0);
        Due.is("its own none", x.judged(0, 3, 0), Due.NONE);
        Due.is("none by another judge", x.judged(2, 2, 0), Due.NONE);
        Due.is("rank", x.judged(0, 1, 2), 1);
        Due.is("rank", x.judged(0, 3, 2), 2);
        x.withdraw(2);
        Due.is("without the withdrawn one's", x.judged(0, 1, 1), 2);
        x.withdraw(0);
        Due.is("0 of the last one", x.judged(0, 1, 1), 0);
        Due.is("as many as another group", x.judged(0, 3, 2), 1);
        x.join(1, 3);
        x.score(0, 3, 10);
        Due.is("the most of the joined", x.judged(0, 1, 1), 10);
    }

    private static void pointsOfWithdrawnOnes() {
        Due.sentence(18, "the points of a judge for a group are the most that the judge gave to any of its captions, 0 if "
                + "none.");
        Contest x = Contest.ofGroups(20);
        for (int judge = 0; judge < 3; judge++) {
            x.score(judge, 19, 10);
            x.score(judge, 9, 9);
        }
        x.withdraw(19);
        x.withdraw(9);
        for (int judge = 0; judge < 3; judge++) {
            for (int caption = 0; caption < 19; caption++) {
                boolean isIn = caption != 9;
                Due.is("points for " + caption, x.judged(judge, caption, 1), isIn ? 0 : Due.UNKNOWN);
                Due.is("rank of " + caption, x.judged(judge, caption, 2), isIn ? 1 : Due.UNKNOWN);
            }
        }
        Due.is("ranks of the last one", x.group(18, 3), 3);
        Due.is("rank of points given then", x.score(2, 18, 1), 1);
        Due.is("rank of another one", x.judged(2, 0, 2), 2);
    }

    private static void ranks() {
        Due.sentence(18, "The rank of a group by a judge is 1 plus the number of groups to which the judge gave more "
                + "points.");
        Contest x = Contest.of("a", "b", "c", "d", "e", "C");
        for (int caption = 0; caption < 5; caption++) {
            Due.is("all without points", x.judged(2, caption, 2), 1);
        }
        x.score(2, 0, 0);
        Due.is("0 is as none", x.judged(2, 1, 2), 1);
        x.score(2, 2, 10);
        x.score(2, 5, 9);
        x.score(2, 3, 9);
        x.score(2, 4, 9);
        int[] wants = {4, 4, 1, 2, 2, 1};
        for (int caption = 0; caption < wants.length; caption++) {
            Due.is("groups are counted, not captions: " + caption, x.judged(2, caption, 2), wants[caption]);
        }
        x.withdraw(2);
        int[] then = {4, 4, 0, 1, 1, 1};
        for (int caption : new int[] {0, 1, 3, 4, 5}) {
            Due.is("as many share a rank: " + caption, x.judged(2, caption, 2), then[caption]);
        }
    }

    private static void ranksOfTwenty() {
        Due.sentence(18, "The rank of a group by a judge is 1 plus the number of groups");
        Contest x = Contest.ofGroups(20);
        for (int caption = 0; caption < 20; caption++) {
            Due.is("rank", x.score(1, caption, caption / 2), 1);
        }
        for (int caption = 0; caption < 20; caption++) {
            Due.is("rank of " + caption, x.judged(1, caption, 2), 19 - caption / 2 * 2);
        }
        x.score(1, 1, 1);
        Due.is("the greatest rank", x.judged(1, 0, 2), 20);
        Due.is("three share the next one", x.judged(1, 1, 2), 17);
        Due.is("as the judge gave nothing", x.judged(0, 0, 2), 1);
        Due.is("the last caption by the last judge", x.judged(2, 19, 2), 1);
        Due.is("the last caption by the last judge", x.score(2, 19, 0), 1);
        Due.is("points by the last judge", x.score(2, 18, 1), 1);
        Due.is("the last caption behind it", x.judged(2, 19, 2), 2);
    }

    private static void judgedChecksInOrder() {
        Due.sentence(18, "Returns the number; UNKNOWN (judge or caption); BAD_VALUE.");
        Contest x = Contest.of("a", "b");
        x.withdraw(1);
        for (int what : new int[] {-1, 3, Due.NONE, Due.LEAST, Due.MOST}) {
            Due.is("what " + what, x.judged(2, 0, what), Due.BAD_VALUE);
            Due.is("judge, what " + what, x.judged(3, 0, what), Due.UNKNOWN);
            Due.is("caption, what " + what, x.judged(0, 2, what), Due.UNKNOWN);
            Due.is("withdrawn, what " + what, x.judged(0, 1, what), Due.UNKNOWN);
        }
        Due.sentence(18, "- caption: a caption");
        for (int caption : new int[] {-1, Due.NONE, 1, 2, 20, Due.LEAST, Due.MOST}) {
            for (int what = 0; what < 3; what++) {
                Due.is("caption " + caption, x.judged(0, caption, what), Due.UNKNOWN);
            }
        }
    }
}
