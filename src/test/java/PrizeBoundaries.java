/** The boundaries of prizes, of what authors get, and of what is counted. */
final class PrizeBoundaries {
    private PrizeBoundaries() {
    }

    static void all() {
        fivePrizes();
        prizeChecksInOrder();
        placesWithPrizes();
        tiesBeyondThePlacesWithPrizes();
        sharesOfGroups();
        sharesOfTwentyGroups();
        sharesOfCaptions();
        sharesOfTwentyCaptions();
        sharesOfWithdrawnOnes();
        tenAuthors();
        authorGets();
        authorPlaces();
        authorChecksInOrder();
        countChecks();
        countCaptions();
        countGroups();
        countLinks();
        countBallots();
        countPoints();
        countWhatAllGet();
        countSettingsAndPrizes();
        countStatesAndText();
    }

    private static void fivePrizes() {
        Due.sentence(9, "There are five prizes, for the places 1 to 5 (0 to 999; 100, 50, 20, 10 and 5 at first).");
        Contest x = new Contest();
        int[] first = {100, 50, 20, 10, 5};
        for (int place = 1; place <= 5; place++) {
            Due.is("at first", x.count(20 + place), first[place - 1]);
        }
        Due.sentence(9, "Returns the previous one; BAD_VALUE; NONE if it is so already.");
        for (int place = 1; place <= 5; place++) {
            Due.is("so already", x.prize(place, first[place - 1]), Due.NONE);
            Due.is("one more", x.prize(place, first[place - 1] + 1), first[place - 1]);
            Due.is("the least", x.prize(place, 0), first[place - 1] + 1);
            Due.is("the least already", x.prize(place, 0), Due.NONE);
            Due.is("the most", x.prize(place, 999), 0);
            Due.is("the most already", x.prize(place, 999), Due.NONE);
            Due.is("one less", x.prize(place, 998), 999);
            Due.is("told", x.count(20 + place), 998);
            for (int other = place + 1; other <= 5; other++) {
                Due.is("the others stay", x.count(20 + other), first[other - 1]);
            }
        }
        Due.sentence(9, "Sets a prize. This is an act.");
        x.undo();
        Due.is("undo", x.count(25), 999);
        Due.is("undo", x.count(24), 998);
    }

    private static void prizeChecksInOrder() {
        Due.sentence(9, "- place: 1 to 5");
        Contest x = new Contest();
        for (int place : new int[] {-1, 0, 6, 7, Due.NONE, Due.LEAST, Due.MOST}) {
            for (int amount : new int[] {-1, 0, 1, 5, 100, 999, 1000}) {
                Due.is("prize " + place + ", " + amount, x.prize(place, amount), Due.BAD_VALUE);
            }
        }
        Due.sentence(9, "- amount: 0 to 999");
        for (int place = 1; place <= 5; place++) {
            for (int amount : new int[] {-1, 1000, 1001, Due.NONE, Due.LEAST, Due.MOST}) {
                Due.is("prize " + place + ", " + amount, x.prize(place, amount), Due.BAD_VALUE);
            }
        }
        Due.is("nothing is recorded", x.count(11), 0);
    }

    private static void placesWithPrizes() {
        Due.sentence(17, "A place beyond those that have prizes has none.");
        Contest x = Contest.ofGroups(7);
        x.set(2, 1);
        int[] prizes = {100, 50, 20, 10, 5, 0, 0};
        for (int places = 0; places <= 5; places++) {
            x.set(1, places);
            int all = 0;
            for (int head = 0; head < 7; head++) {
                int want = head < places ? prizes[head] : 0;
                all += want;
                Due.is(places + " places, of place " + (head + 1), x.group(head, 6), want);
            }
            Due.is("all get", x.count(6), all);
        }
        x.prize(5, 999);
        Due.is("the fifth place", x.group(4, 6), 999);
        Due.is("the sixth place", x.group(5, 6), 0);
        x.set(1, 4);
        Due.is("the fifth place of four", x.group(4, 6), 0);
        Due.is("its prize stays", x.count(25), 999);
    }

    private static void tiesBeyondThePlacesWithPrizes() {
        Due.sentence(17, "Groups that tie share the prizes of all places that they take together: each gets as much, "
                + "rounded down, the rest one each, the lowest heads first.");
        Contest x = Contest.ofGroups(6);
        x.vote(0, 2, Due.NONE, Due.NONE);
        x.vote(1, 2, 3, Due.NONE);
        // 2 is first, 3 is second, and 0, 1, 4 and 5 take the places 3 to 6
        Due.is("place", x.group(5, 5), 3);
        Due.is("the second place", x.group(3, 6), 50);
        Due.is("20 for four", x.group(0, 6), 5);
        Due.is("20 for four", x.group(5, 6), 5);
        x.set(1, 5);
        // 20 + 10 + 5 are 35: 8 each, and 3 are left
        int[] wants = {9, 9, 100, 50, 9, 8};
        for (int head = 0; head < 6; head++) {
            Due.is("35 for four: " + head, x.group(head, 6), wants[head]);
        }
        x.set(1, 2);
        Due.is("no prize", x.group(0, 6), 0);
        Due.is("no prize", x.group(5, 6), 0);
        x.set(1, 3);
        x.prize(3, 3);
        int[] less = {1, 1, 100, 50, 1, 0};
        for (int head = 0; head < 6; head++) {
            Due.is("3 for four: " + head, x.group(head, 6), less[head]);
        }
        x.prize(3, 0);
        Due.is("nothing for four", x.group(0, 6), 0);
    }

    private static void sharesOfGroups() {
        Due.sentence(17, "each gets as much, rounded down, the rest one each, the lowest heads first");
        Contest x = Contest.ofGroups(5);
        x.vote(0, 0, Due.NONE, Due.NONE);
        x.vote(1, 3, Due.NONE, Due.NONE);
        // 0 and 3 take the places 1 and 2, and 1, 2 and 4 the places 3 to 5
        Due.is("150 for two", x.group(0, 6), 75);
        Due.is("150 for two", x.group(3, 6), 75);
        Due.is("20 for three", x.group(1, 6), 7);
        Due.is("20 for three", x.group(2, 6), 7);
        Due.is("20 for three", x.group(4, 6), 6);
        x.prize(1, 101);
        Due.is("151 for two", x.group(0, 6), 76);
        Due.is("151 for two", x.group(3, 6), 75);
        x.prize(3, 22);
        Due.is("22 for three", x.group(1, 6), 8);
        Due.is("22 for three", x.group(2, 6), 7);
        Due.is("22 for three", x.group(4, 6), 7);
        x.prize(3, 21);
        Due.is("21 for three", x.group(1, 6), 7);
        Due.is("21 for three", x.group(4, 6), 7);
        x.set(2, 1);
        int[] broken = {101, 21, 0, 50, 0};
        for (int head = 0; head < 5; head++) {
            Due.is("by the tie rule 1 none is shared: " + head, x.group(head, 6), broken[head]);
        }
    }

    private static void sharesOfTwentyGroups() {
        Due.sentence(17, "share the prizes of all places that they take together");
        Contest x = Contest.ofGroups(20);
        for (int head = 0; head < 20; head++) {
            Due.is("170 for twenty: " + head, x.group(head, 6), head < 10 ? 9 : 8);
        }
        x.set(1, 5);
        for (int place = 1; place <= 5; place++) {
            x.prize(place, 999);
        }
        // 4995 for twenty: 249 each, and 15 are left
        for (int head = 0; head < 20; head++) {
            Due.is("4995 for twenty: " + head, x.group(head, 6), head < 15 ? 250 : 249);
        }
        Due.is("all of it", x.count(6), 4995);
        x.vote(0, 19, Due.NONE, Due.NONE);
        Due.is("the first one", x.group(19, 6), 999);
        // 3996 for nineteen: 210 each, and 6 are left
        Due.is("the sixth of the others", x.group(5, 6), 211);
        Due.is("the seventh of the others", x.group(6, 6), 210);
        Due.is("all of it", x.count(6), 4995);
    }

    private static void sharesOfCaptions() {
        Due.sentence(15, "A group shares what it gets among its captions: each gets as much, rounded down, the rest one "
                + "each, the lowest numbers first.");
        Contest x = Contest.of("b", "a", "A", "B", "a!");
        x.vote(0, 3, Due.NONE, Due.NONE);
        int[] wants = {50, 17, 17, 50, 16};
        for (int caption = 0; caption < 5; caption++) {
            Due.is("100 for two, 50 for three: " + caption, x.caption(caption, 5), wants[caption]);
        }
        Due.sentence(17, "6 for what it gets");
        int[] groups = {100, 50, 50, 100, 50};
        for (int caption = 0; caption < 5; caption++) {
            Due.is("what its captions share: " + caption, x.group(caption, 6), groups[caption]);
        }
        Due.sentence(15, "each gets as much, rounded down, the rest one each, the lowest numbers first");
        x.prize(1, 101);
        x.prize(2, 49);
        int[] then = {51, 17, 16, 50, 16};
        for (int caption = 0; caption < 5; caption++) {
            Due.is("101 for two, 49 for three: " + caption, x.caption(caption, 5), then[caption]);
        }
        x.prize(2, 2);
        Due.is("2 for three", x.caption(1, 5), 1);
        Due.is("2 for three", x.caption(2, 5), 1);
        Due.is("2 for three", x.caption(4, 5), 0);
        x.prize(1, 1);
        Due.is("1 for two", x.caption(0, 5), 1);
        Due.is("1 for two", x.caption(3, 5), 0);
        x.prize(1, 0);
        Due.is("nothing for two", x.caption(0, 5), 0);
        Due.is("the other group's is not told by this one's", x.caption(1, 5), 1);
    }

    private static void sharesOfTwentyCaptions() {
        Due.sentence(15, "the rest one each, the lowest numbers first");
        Contest x = Contest.ofAlike(20);
        for (int caption = 0; caption < 20; caption++) {
            Due.is("100 for twenty", x.caption(caption, 5), 5);
        }
        x.prize(1, 999);
        for (int caption = 0; caption < 20; caption++) {
            Due.is("999 for twenty: " + caption, x.caption(caption, 5), caption < 19 ? 50 : 49);
        }
        x.prize(1, 1);
        Due.is("1 for twenty", x.caption(0, 5), 1);
        Due.is("1 for twenty", x.caption(1, 5), 0);
        x.withdraw(0);
        Due.is("1 for nineteen", x.caption(1, 5), 1);
        Due.is("1 for nineteen", x.caption(2, 5), 0);
    }

    private static void sharesOfWithdrawnOnes() {
        Due.sentence(15, "5 for what it gets");
        Contest x = Contest.of("a", "b", "A");
        x.vote(0, 0, Due.NONE, Due.NONE);
        Due.is("half", x.caption(2, 5), 50);
        x.withdraw(0);
        Due.is("withdrawn", x.caption(0, 5), Due.UNKNOWN);
        Due.is("75 of a tie", x.caption(2, 5), 75);
        x.withdraw(1);
        Due.is("all", x.caption(2, 5), 100);
        x.withdraw(2);
        Due.is("nobody gets any", x.count(6), 0);
    }

    private static void tenAuthors() {
        Due.sentence(24, "- author: 0 to 9");
        Contest x = Contest.ofAlike(10);
        for (int author = 0; author <= 9; author++) {
            Due.is("captions of " + author, x.author(author, 0), 1);
            Due.is("what " + author + " gets", x.author(author, 1), 10);
            Due.is("place of " + author, x.author(author, 2), 1);
        }
        Due.sentence(24, "0 for the captions of the author (in the contest)");
        x.withdraw(9);
        x.withdraw(0);
        Due.is("captions of 9", x.author(9, 0), 0);
        Due.is("captions of 0", x.author(0, 0), 0);
        Due.is("captions of 8", x.author(8, 0), 1);
        Due.is("100 for eight", x.author(1, 1), 13);
        Due.is("100 for eight", x.author(4, 1), 13);
        Due.is("100 for eight", x.author(5, 1), 12);
        Due.is("nothing", x.author(9, 1), 0);
        Contest y = new Contest().text("a");
        for (int i = 0; i < 20; i++) {
            y.submit(6);
        }
        Due.is("twenty of one", y.author(6, 0), 20);
        Due.is("all of it", y.author(6, 1), 100);
        Due.is("none of another one", y.author(5, 0), 0);
    }

    private static void authorGets() {
        Due.sentence(24, "The author of a caption gets what it gets.");
        Contest x = new Contest();
        String[] texts = {"a", "b", "c", "d", "e"};
        for (int i = 0; i < 5; i++) {
            x.submit(3, texts[i]);
        }
        x.submit(4, "A");
        x.set(1, 5);
        for (int place = 1; place <= 5; place++) {
            x.prize(place, 999);
        }
        // 4995 for five are 999 each, of which a's are shared
        Due.is("the most but what a alike one gets", x.author(3, 1), 4 * 999 + 500);
        Due.is("the alike one's", x.author(4, 1), 499);
        Due.is("none", x.author(2, 1), 0);
        x.withdraw(5);
        Due.is("the most", x.author(3, 1), 4995);
        Due.is("its captions are withdrawn", x.author(4, 1), 0);
        x.set(1, 0);
        Due.is("no prizes", x.author(3, 1), 0);
    }

    private static void authorPlaces() {
        Due.sentence(24, "2 for the best place of a group with a caption of the author (NONE without one)");
        Contest x = Contest.ofGroups(20);
        x.vote(0, 19, 8, Due.NONE);
        Due.is("first by 19", x.author(9, 2), 1);
        Due.is("second by 8", x.author(8, 2), 2);
        Due.is("third with all others", x.author(7, 2), 3);
        x.withdraw(19);
        Due.is("8 is the first then", x.author(8, 2), 1);
        Due.is("second by 9", x.author(9, 2), 2);
        x.withdraw(9);
        Due.is("no caption is left", x.author(9, 2), Due.NONE);
        x.join(8, 0);
        Due.is("by a group with another author's", x.author(0, 2), 1);
        x.set(0, 1);
        Due.is("by the method 1", x.author(0, 2), 1);
        Due.is("by the method 1, the lower one", x.author(1, 2), 2);
        Due.is("by the method 1, the lower one", x.author(7, 2), 8);
        Due.is("no captions at all", new Contest().author(0, 2), Due.NONE);
    }

    private static void authorChecksInOrder() {
        Due.sentence(24, "Returns the number; UNKNOWN; BAD_VALUE.");
        Contest x = Contest.of("a");
        for (int what : new int[] {-1, 3, Due.NONE, Due.LEAST, Due.MOST}) {
            Due.is("what " + what, x.author(0, what), Due.BAD_VALUE);
            Due.is("what " + what, x.author(9, what), Due.BAD_VALUE);
            Due.is("author, what " + what, x.author(10, what), Due.UNKNOWN);
            Due.is("author, what " + what, x.author(-1, what), Due.UNKNOWN);
        }
        for (int author : new int[] {-1, 10, Due.NONE, Due.LEAST, Due.MOST}) {
            for (int what = 0; what < 3; what++) {
                Due.is("author " + author, x.author(author, what), Due.UNKNOWN);
            }
        }
        Due.sentence(24, "1 for what the author gets");
        Due.is("the only one", x.author(0, 1), 100);
    }

    private static void countChecks() {
        Due.sentence(25, "Returns the number; BAD_VALUE.");
        Contest x = Contest.of("a");
        for (int what : new int[] {-1, -2, 13, 14, 15, 16, 17, 18, 19, 20, 26, 27, Due.NONE, Due.LEAST, Due.MOST}) {
            Due.is("count " + what, x.count(what), Due.BAD_VALUE);
        }
        Due.sentence(25, "- what: 0 for captions in the contest, 1 for captions so far, 2 for groups, 3 for links (all of "
                + "them), 4 for ballots with any wish that counts, 5 for points by ballots of all groups, 6 for what all "
                + "captions get together, 7 to 9 for the settings, 10 for groups that tie with another one for a place, "
                + "11 for the states in the history, 12 for the length of the text, 21 to 25 for the prizes of the places "
                + "1 to 5");
        int[] wants = {1, 1, 1, 0, 0, 0, 100, 0, 3, 0, 0, 1, 1};
        for (int what = 0; what <= 12; what++) {
            Due.is("count " + what, x.count(what), wants[what]);
        }
        int[] prizes = {100, 50, 20, 10, 5};
        for (int what = 21; what <= 25; what++) {
            Due.is("count " + what, x.count(what), prizes[what - 21]);
        }
    }

    private static void countCaptions() {
        Due.sentence(25, "0 for captions in the contest, 1 for captions so far");
        Contest x = Contest.ofAlike(20);
        Due.is("in the contest", x.count(0), 20);
        Due.is("so far", x.count(1), 20);
        for (int i = 0; i < 20; i++) {
            x.withdraw(i);
        }
        Due.is("in the contest", x.count(0), 0);
        Due.is("so far", x.count(1), 20);
    }

    private static void countGroups() {
        Due.sentence(25, "Captions that are in the contest are in groups.");
        Contest x = Contest.ofGroups(20);
        Due.is("each in one of its own", x.count(2), 20);
        x.join(0, 19);
        Due.is("two in one", x.count(2), 19);
        x.withdraw(0);
        Due.is("19 of its own", x.count(2), 19);
        x.withdraw(19);
        Due.is("withdrawn ones are in none", x.count(2), 18);
        Contest y = Contest.ofAlike(20);
        Due.is("all in one", y.count(2), 1);
    }

    private static void countLinks() {
        Due.sentence(25, "3 for links (all of them)");
        Contest x = Contest.ofGroups(4);
        x.join(0, 1);
        x.join(1, 2);
        x.join(2, 3);
        Due.is("three", x.count(3), 3);
        x.withdraw(1);
        x.join(0, 2);
        Due.is("those to withdrawn ones too", x.count(3), 4);
        x.withdraw(0);
        x.withdraw(2);
        x.withdraw(3);
        Due.is("those between withdrawn ones too", x.count(3), 4);
    }

    private static void countBallots() {
        Due.sentence(25, "4 for ballots with any wish that counts");
        Contest x = Contest.of("a", "b", "c");
        Due.is("all empty", x.count(4), 0);
        for (int visitor = 0; visitor < 12; visitor++) {
            x.vote(visitor, visitor % 2, visitor == 3 ? 2 : Due.NONE, Due.NONE);
        }
        Due.is("all twelve", x.count(4), 12);
        x.vote(11, Due.NONE, Due.NONE, Due.NONE);
        Due.is("eleven", x.count(4), 11);
        x.withdraw(1);
        // those of 1, 5, 7 and 9 have no other wish
        Due.is("with one that moves up", x.count(4), 7);
        x.withdraw(2);
        Due.is("without it", x.count(4), 6);
        x.withdraw(0);
        Due.is("none", x.count(4), 0);
    }

    private static void countPoints() {
        Due.sentence(25, "5 for points by ballots of all groups");
        Contest x = Contest.of("a", "b", "c", "C");
        Due.is("none", x.count(5), 0);
        for (int visitor = 0; visitor < 12; visitor++) {
            x.vote(visitor, 0, 1, 2);
        }
        Due.is("the most", x.count(5), 72);
        x.vote(0, 2, 3, 0);
        Due.is("two of a group count once", x.count(5), 71);
        x.withdraw(0);
        Due.is("the others move up", x.count(5), 11 * 5 + 3);
        x.withdraw(1);
        Due.is("the others move up", x.count(5), 11 * 3 + 3);
        Contest y = Contest.ofGroups(20);
        for (int head = 0; head < 20; head++) {
            y.vote(11, head, Due.NONE, Due.NONE);
            Due.is("of the group " + head, y.count(5), 3);
            Due.is("its points", y.group(head, 1), 3);
        }
    }

    private static void countWhatAllGet() {
        Due.sentence(25, "6 for what all captions get together");
        Contest x = new Contest();
        Due.is("nobody", x.count(6), 0);
        x.text("a").submit(0);
        Due.is("one group gets one prize", x.count(6), 100);
        x.submit(0);
        Due.is("though it has two captions", x.count(6), 100);
        x.submit(0, "b");
        Due.is("two groups", x.count(6), 150);
        x.submit(0, "c");
        Due.is("three groups", x.count(6), 170);
        x.submit(0, "d");
        Due.is("four groups", x.count(6), 170);
        x.set(1, 5);
        Due.is("four groups", x.count(6), 180);
        x.submit(0, "e");
        Due.is("five groups", x.count(6), 185);
        x.submit(0, "f");
        Due.is("six groups", x.count(6), 185);
        x.set(1, 0);
        Due.is("no prizes", x.count(6), 0);
        Contest y = Contest.ofGroups(20);
        for (int left = 19; left >= 0; left--) {
            y.withdraw(left);
            int want = left > 2 ? 170 : left == 2 ? 150 : left == 1 ? 100 : 0;
            Due.is("withdrawn ones get nothing, " + left + " are left", y.count(6), want);
        }
    }

    private static void countSettingsAndPrizes() {
        Due.sentence(25, "7 to 9 for the settings");
        Contest x = new Contest();
        x.set(0, 1);
        Due.is("the method", x.count(7), 1);
        Due.is("the tie rule", x.count(9), 0);
        x.set(1, 4);
        Due.is("the places with prizes", x.count(8), 4);
        x.set(2, 1);
        Due.is("the tie rule", x.count(9), 1);
        Due.sentence(25, "21 to 25 for the prizes of the places 1 to 5");
        for (int place = 1; place <= 5; place++) {
            x.prize(place, 700 + place);
        }
        for (int place = 1; place <= 5; place++) {
            Due.is("place " + place, x.count(20 + place), 700 + place);
        }
        Due.is("no place 0", x.count(20), Due.BAD_VALUE);
        Due.is("no place 6", x.count(26), Due.BAD_VALUE);
    }

    private static void countStatesAndText() {
        Due.sentence(25, "11 for the states in the history, 12 for the length of the text");
        Contest x = new Contest();
        Due.is("no states", x.count(11), 0);
        for (int i = 1; i <= 6; i++) {
            x.prize(1, i);
            Due.is("states", x.count(11), Math.min(i, 4));
        }
        Due.is("no text", x.count(12), 0);
        for (int i = 1; i <= 62; i++) {
            x.type('a');
            Due.is("length", x.count(12), Math.min(i, 60));
        }
    }
}
