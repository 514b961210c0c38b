/** The boundaries of captions and groups: withdrawn, joined, parted ones, and what is told of one caption. */
final class CaptionBoundaries {
    private CaptionBoundaries() {
    }

    static void all() {
        withdrawn();
        whatStaysOfWithdrawnOnes();
        withdrawnOnesAreUnknown();
        joined();
        joinChecksInOrder();
        joinedByChains();
        joinedOfAll();
        lastOnesAlike();
        lastOnesLinked();
        parted();
        partedOfAll();
        partChecksInOrder();
        heads();
        captionNumbers();
        captionChecksInOrder();
        captionLinks();
        captionBallots();
    }

    private static void withdrawn() {
        Due.sentence(3, "Returns how many captions are in the contest then; UNKNOWN.");
        Contest x = Contest.ofAlike(20);
        for (int caption = 19; caption >= 0; caption--) {
            Due.is("withdraw " + caption, x.withdraw(caption), caption);
            Due.is("once more", x.withdraw(caption), Due.UNKNOWN);
        }
        Due.is("none in the contest", x.count(0), 0);
        Due.is("no groups", x.count(2), 0);
        Due.sentence(3, "- caption: a caption");
        Contest y = Contest.of("a", "b");
        for (int caption : new int[] {-1, Due.NONE, 2, 19, 20, Due.LEAST, Due.MOST}) {
            Due.is("caption " + caption, y.withdraw(caption), Due.UNKNOWN);
        }
        Due.is("both in the contest", y.count(0), 2);
        Due.is("no caption at all", new Contest().withdraw(0), Due.UNKNOWN);
    }

    private static void whatStaysOfWithdrawnOnes() {
        Due.sentence(3, "Withdraws a caption (ballots, links and judges' points stay). This is an act.");
        Contest x = Contest.of("a", "b", "c", "B");
        x.join(1, 2);
        x.vote(3, 1, 2, 0);
        x.score(0, 1, 9);
        x.score(0, 3, 2);
        Due.is("states", x.count(11), 4);
        Due.is("withdraw", x.withdraw(1), 3);
        Due.is("the ballot", x.ballot(3, 0, false), 1);
        Due.is("its second wish", x.ballot(3, 1, false), 2);
        Due.is("links", x.count(3), 1);
        Due.is("points of a withdrawn one count for none", x.judged(0, 3, 1), 2);
        Due.is("its ballots are told no more", x.caption(1, 6), Due.UNKNOWN);
        Due.is("so far", x.count(1), 4);
        Due.is("an act", x.undo(), 3);
        Due.is("in the contest again", x.count(0), 4);
        Due.is("its points stayed", x.judged(0, 1, 0), 9);
        Due.is("its link stayed", x.caption(2, 1), 1);
    }

    private static void withdrawnOnesAreUnknown() {
        Due.sentence(3, "UNKNOWN = -1: There is no such caption (or it was withdrawn), author, visitor or judge.");
        Contest x = Contest.of("a", "b", "A");
        x.withdraw(0);
        Due.is("withdraw", x.withdraw(0), Due.UNKNOWN);
        Due.is("join one", x.join(0, 1), Due.UNKNOWN);
        Due.is("join other", x.join(1, 0), Due.UNKNOWN);
        Due.is("part", x.part(0), Due.UNKNOWN);
        Due.is("first", x.vote(0, 0, 1, 2), Due.UNKNOWN);
        Due.is("second", x.vote(0, 1, 0, 2), Due.UNKNOWN);
        Due.is("third", x.vote(0, 1, 2, 0), Due.UNKNOWN);
        Due.is("score", x.score(0, 0, 0), Due.UNKNOWN);
        Due.is("caption", x.caption(0, 0), Due.UNKNOWN);
        Due.is("letter", x.letter(0, 0), Due.UNKNOWN);
        Due.is("group", x.group(0, 0), Due.UNKNOWN);
        Due.is("judged", x.judged(0, 0, 0), Due.UNKNOWN);
        Due.is("distance one", x.distance(0, 1), Due.UNKNOWN);
        Due.is("distance other", x.distance(1, 0), Due.UNKNOWN);
        Due.is("nothing is recorded but the withdrawal", x.count(11), 4);
    }

    private static void joined() {
        Due.sentence(4, "Joins the groups of two captions by a link. This is an act.");
        Contest x = Contest.of("a", "b", "c", "B", "d");
        Due.is("join", x.join(4, 3), 1);
        Due.is("the link is of these", x.caption(3, 4), 1);
        Due.is("not of the head", x.caption(1, 4), 0);
        Due.is("the whole group is joined", x.group(1, 0), 3);
        Due.is("an act", x.undo(), 3);
        Due.is("as it was", x.group(1, 0), 2);
        Due.sentence(4, "Returns the head of the group then; UNKNOWN (one or other); BAD_VALUE if both are the same; "
                + "NONE if they are in one group already.");
        Due.is("the lower one is told last", x.join(3, 0), 0);
        Due.is("the lower one is told first", x.join(2, 4), 2);
        Due.is("both groups are joined", x.join(4, 1), 0);
        Due.is("all in one", x.group(2, 0), 5);
        Due.is("linked ones", x.join(0, 3), Due.NONE);
        Due.is("linked by others", x.join(2, 0), Due.NONE);
        Due.is("alike ones", x.join(1, 3), Due.NONE);
        Due.is("three links", x.count(3), 3);
    }

    private static void joinChecksInOrder() {
        Due.sentence(4, "UNKNOWN (one or other); BAD_VALUE if both are the same; NONE if they are in one group already.");
        Contest x = Contest.of("a", "A", "b");
        x.withdraw(2);
        for (int none : new int[] {-1, Due.NONE, 2, 3, 20, Due.LEAST, Due.MOST}) {
            Due.is("one " + none, x.join(none, 0), Due.UNKNOWN);
            Due.is("other " + none, x.join(0, none), Due.UNKNOWN);
            Due.is("the same, but unknown " + none, x.join(none, none), Due.UNKNOWN);
        }
        Due.sentence(4, "- one: a caption");
        Due.sentence(4, "- other: another caption");
        Due.is("the same, which is in one group", x.join(0, 0), Due.BAD_VALUE);
        Due.is("the same, the last one", x.join(1, 1), Due.BAD_VALUE);
        Due.is("alike", x.join(0, 1), Due.NONE);
        Due.is("no links", x.count(3), 0);
    }

    private static void joinedByChains() {
        Due.sentence(4, "captions are in one group if one comes from one to the other by captions that are in the "
                + "contest, each alike or linked to the next.");
        Due.sentence(4, "Captions that are alike are in one group; two groups can be joined by hand.");
        Contest x = Contest.of("a", "b", "c", "A", "B", "C", "d");
        // 3-4 and 1-5 are linked: a is alike to 3, 4 to b, b's link leads to 5, which is alike to c
        Due.is("join", x.join(3, 4), 0);
        Due.is("join", x.join(5, 1), 0);
        Due.is("c by all of them", x.caption(2, 1), 0);
        Due.is("d by none", x.caption(6, 1), 6);
        Due.is("captions", x.group(2, 0), 6);
        Due.is("groups", x.count(2), 2);
        Due.sentence(4, "A link is a pair of captions that was joined by hand, and stays until it is parted (also if "
                + "captions are withdrawn)");
        x.withdraw(4);
        Due.is("the way by the withdrawn one is gone", x.caption(1, 1), 1);
        Due.is("the other way stays", x.caption(2, 1), 1);
        Due.is("a is with 3 alone", x.group(0, 0), 2);
        Due.is("groups", x.count(2), 3);
        Due.is("links", x.count(3), 2);
        x.withdraw(3);
        Due.is("both captions of the link are withdrawn", x.count(3), 2);
        x.undo();
        x.undo();
        Due.is("its way is there again", x.caption(2, 1), 0);
    }

    private static void joinedOfAll() {
        Due.sentence(4, "two groups can be joined by hand");
        Contest x = Contest.ofGroups(20);
        for (int i = 0; i < 19; i++) {
            Due.is("join", x.join(19 - i, 18 - i), 18 - i);
        }
        Due.is("one group", x.count(2), 1);
        Due.is("of twenty", x.group(19, 0), 20);
        Due.is("links", x.count(3), 19);
        Due.is("from one end to the other", x.join(0, 19), Due.NONE);
        Due.is("withdraw the tenth", x.withdraw(10), 19);
        Due.is("two groups", x.count(2), 2);
        Due.is("head of the other one", x.caption(19, 1), 11);
        Due.is("its captions", x.group(11, 0), 9);
        Due.is("joined past the withdrawn one", x.join(11, 9), 0);
        Due.is("links", x.count(3), 20);
    }

    private static void lastOnesAlike() {
        Due.sentence(4, "Captions that are alike are in one group");
        for (int first = 0; first < 19; first++) {
            Contest x = Contest.ofGroups(19);
            x.text("a".repeat(first) + "A");
            Due.is("the last one", x.submit(0), 19);
            Due.is("alike to " + first, x.caption(19, 1), first);
            Due.is("captions of its group", x.group(19, 0), 2);
            Due.is("groups", x.count(2), 19);
            Due.is("nothing to join", x.join(first, 19), Due.NONE);
            Due.is("withdraw", x.withdraw(first), 19);
            Due.is("alone", x.caption(19, 1), 19);
        }
    }

    private static void lastOnesLinked() {
        Due.sentence(5, "NONE if it has no links (to withdrawn captions neither)");
        Contest x = Contest.ofGroups(20);
        for (int other = 1; other < 20; other++) {
            Due.is("join 0 and " + other, x.join(other, 0), 0);
            Due.is("links of 0", x.caption(0, 4), 1);
            Due.is("links of " + other, x.caption(other, 4), 1);
            Due.is("links", x.count(3), 1);
            Due.is("part 0 from " + other, x.part(0), 0);
            Due.is("no links", x.count(3), 0);
            Due.is("0 has none", x.part(0), Due.NONE);
            Due.is(other + " has none", x.part(other), Due.NONE);
        }
        for (int other = 0; other < 19; other++) {
            Due.is("join 19 and " + other, x.join(19, other), other);
            Due.is("withdraw " + other, x.withdraw(other), 19);
            Due.is("links of 19", x.caption(19, 4), 0);
            Due.is("part 19 from " + other, x.part(19), 19);
            Due.is("19 has none", x.part(19), Due.NONE);
            x.undo();
            x.undo();
            Due.is("in the contest again", x.caption(19, 4), 1);
            x.undo();
        }
    }

    private static void parted() {
        Due.sentence(5, "Parts a caption: all links of it are gone. This is an act.");
        Contest x = Contest.of("a", "b", "c", "d", "C");
        x.join(2, 0);
        x.join(2, 1);
        x.join(3, 1);
        Due.is("links of 2", x.caption(2, 4), 2);
        Due.is("links of 1", x.caption(1, 4), 2);
        Due.sentence(5, "Returns the head of its group then; UNKNOWN; NONE if it has no links (to withdrawn captions "
                + "neither).");
        Due.is("part 2, which stays with 4", x.part(2), 2);
        Due.is("its links", x.caption(2, 4), 0);
        Due.is("links of 1", x.caption(1, 4), 1);
        Due.is("links of 0", x.caption(0, 4), 0);
        Due.is("links", x.count(3), 1);
        Due.is("alike ones stay together", x.caption(4, 1), 2);
        Due.is("an act", x.undo(), 3);
        Due.is("links", x.count(3), 3);
        x.withdraw(0);
        x.withdraw(1);
        Due.is("links to withdrawn ones alone", x.caption(2, 4), 0);
        Due.is("are links", x.part(2), 2);
        Due.is("they are gone", x.count(3), 1);
        Due.is("no links to withdrawn ones neither", x.part(2), Due.NONE);
        Due.is("3 has one to 1", x.part(3), 3);
        Due.is("and then none", x.part(3), Due.NONE);
        Due.is("no links", x.count(3), 0);
        Contest y = Contest.of("b", "c", "B");
        y.join(1, 2);
        Due.is("a head that is alike", y.part(2), 0);
        Due.is("1 is alone", y.caption(1, 1), 1);
    }

    private static void partedOfAll() {
        Due.sentence(5, "all links of it are gone");
        Contest x = Contest.ofGroups(20);
        for (int i = 1; i < 20; i++) {
            x.join(i, 0);
        }
        Due.is("links of 0", x.caption(0, 4), 19);
        Due.is("links of 19", x.caption(19, 4), 1);
        Due.is("part the middle", x.part(0), 0);
        Due.is("no links", x.count(3), 0);
        Due.is("groups", x.count(2), 20);
        x.undo();
        Due.is("part the last one", x.part(19), 19);
        Due.is("links", x.count(3), 18);
        Due.is("groups", x.count(2), 2);
    }

    private static void partChecksInOrder() {
        Due.sentence(5, "UNKNOWN; NONE if it has no links (to withdrawn captions neither)");
        Contest x = Contest.of("a", "b", "c", "A");
        x.join(0, 1);
        x.withdraw(1);
        x.withdraw(2);
        Due.is("a withdrawn one with a link", x.part(1), Due.UNKNOWN);
        Due.is("a withdrawn one without", x.part(2), Due.UNKNOWN);
        Due.is("the link stays", x.count(3), 1);
        Due.is("an alike one without a link", x.part(3), Due.NONE);
        Due.sentence(5, "- caption: a caption");
        for (int none : new int[] {-1, Due.NONE, 4, 20, Due.LEAST, Due.MOST}) {
            Due.is("caption " + none, x.part(none), Due.UNKNOWN);
        }
    }

    private static void heads() {
        Due.sentence(17, "The head of a group is its caption with the lowest number; a group is told by its head, or by "
                + "any of its captions.");
        Contest x = Contest.of("a", "b", "c", "B", "A");
        x.join(2, 3);
        x.vote(0, 3, 4, Due.NONE);
        for (int what = 0; what <= 7; what++) {
            int told = x.group(1, what);
            Due.is("told by 2, " + what, x.group(2, what), told);
            Due.is("told by 3, " + what, x.group(3, what), told);
            Due.is("told by 4, " + what, x.group(4, what), x.group(0, what));
        }
        Due.is("head", x.caption(3, 1), 1);
        Due.is("captions", x.group(3, 0), 3);
        x.withdraw(1);
        Due.is("the next lowest one", x.caption(3, 1), 2);
        Due.is("captions", x.group(3, 0), 2);
        x.withdraw(2);
        Due.is("the last one", x.caption(3, 1), 3);
        Due.is("captions", x.group(3, 0), 1);
    }

    private static void captionNumbers() {
        Due.sentence(15, "- what: 0 for its author, 1 for the head of its group, 2 for the characters of its text, "
                + "3 for the letters of its core, 4 for its links (to captions that are in the contest), 5 for what it "
                + "gets, 6 for the ballots on which it stands (as they were filled in)");
        Contest x = Contest.of("b!", "cd, e", "C.D.E");
        x.vote(0, 1, 0, Due.NONE);
        x.vote(1, 1, 2, Due.NONE);
        x.join(2, 0);
        int[] wants = {2, 0, 5, 3, 1, 33, 1};
        for (int what = 0; what <= 6; what++) {
            Due.is("what " + what, x.caption(2, what), wants[what]);
        }
        Due.is("a hundred for three", x.caption(0, 5), 34);
    }

    private static void captionChecksInOrder() {
        Due.sentence(15, "Returns the number; UNKNOWN; BAD_VALUE.");
        Contest x = Contest.of("a", "b");
        x.withdraw(1);
        for (int what : new int[] {-1, 7, 8, Due.NONE, Due.LEAST, Due.MOST}) {
            Due.is("what " + what, x.caption(0, what), Due.BAD_VALUE);
            Due.is("unknown, what " + what, x.caption(2, what), Due.UNKNOWN);
            Due.is("withdrawn, what " + what, x.caption(1, what), Due.UNKNOWN);
        }
        Due.sentence(15, "- caption: a caption");
        for (int caption : new int[] {-1, Due.NONE, 1, 2, 20, Due.LEAST, Due.MOST}) {
            for (int what = 0; what <= 6; what++) {
                Due.is("caption " + caption + ", what " + what, x.caption(caption, what), Due.UNKNOWN);
            }
        }
    }

    private static void captionLinks() {
        Due.sentence(15, "4 for its links (to captions that are in the contest)");
        Contest x = Contest.of("a", "b", "c", "d");
        Due.is("none", x.caption(0, 4), 0);
        x.join(0, 1);
        x.join(0, 2);
        x.join(3, 0);
        Due.is("three", x.caption(0, 4), 3);
        Due.is("one", x.caption(3, 4), 1);
        x.withdraw(3);
        Due.is("two", x.caption(0, 4), 2);
        x.withdraw(1);
        x.withdraw(2);
        Due.is("none in the contest", x.caption(0, 4), 0);
        Due.is("all of them", x.count(3), 3);
    }

    private static void captionBallots() {
        Due.sentence(15, "6 for the ballots on which it stands (as they were filled in)");
        Contest x = Contest.of("a", "A", "b", "c");
        Due.is("none", x.caption(0, 6), 0);
        for (int visitor = 0; visitor < 12; visitor++) {
            x.vote(visitor, visitor < 4 ? 1 : 2, visitor < 8 ? 0 : 1, visitor < 4 ? 2 : visitor < 8 ? 1 : 0);
        }
        Due.is("in all places, though its group has an earlier wish", x.caption(0, 6), 12);
        Due.is("in all places", x.caption(1, 6), 12);
        Due.is("in two places", x.caption(2, 6), 12);
        Due.is("on no ballot", x.caption(3, 6), 0);
        x.withdraw(2);
        Due.is("the others all the same", x.caption(1, 6), 12);
        x.vote(0, 3, Due.NONE, Due.NONE);
        x.vote(11, Due.NONE, Due.NONE, Due.NONE);
        Due.is("ten", x.caption(0, 6), 10);
        Due.is("one", x.caption(3, 6), 1);
    }
}
