/** The boundaries of texts: what is typed, what is handed in, and what is told of it. */
final class TextBoundaries {
    private static final String SIGNS = " .,!?'-";

    private TextBoundaries() {
    }

    static void all() {
        twentyCaptions();
        tenAuthors();
        oneToSixtyCharacters();
        allCharacters();
        faults();
        submitChecksInOrder();
        submitIsAnAct();
        sixtyCharactersTyped();
        anyCharacter();
        cleared();
        letters();
        lettersOfTwentyTimesSixty();
        cores();
        coresOfTheLastCaptions();
        distances();
        distancesOfSixty();
        nearest();
        nearestOfGroups();
        nearestOfCores();
        nearestMost();
    }

    private static void twentyCaptions() {
        Due.sentence(2, "There are at most 20 captions ever, numbered from 0.");
        Contest x = Contest.ofAlike(20);
        Due.is("the 21st", x.submit(0), Due.FULL);
        Due.is("so far", x.count(1), 20);
        Due.is("the last one is number 19", x.caption(19, 0), 9);
        Due.is("no number 20", x.caption(20, 0), Due.UNKNOWN);
        Due.sentence(2, "FULL if there have been 20.");
        Due.is("withdraw", x.withdraw(0), 19);
        Due.is("withdrawn ones have been", x.submit(0), Due.FULL);
        Due.is("so far", x.count(1), 20);
        x.undo();
        x.undo();
        Due.is("so far after undo", x.count(1), 19);
        Due.is("room for one", x.submit(4), 19);
        Due.is("and for no other", x.submit(4), Due.FULL);
        Contest y = Contest.ofAlike(19);
        for (int i = 0; i < 19; i++) {
            y.withdraw(i);
        }
        Due.is("none in the contest", y.count(0), 0);
        Due.is("the twentieth", y.submit(0), 19);
        Due.is("the 21st", y.submit(0), Due.FULL);
    }

    private static void tenAuthors() {
        Due.sentence(2, "A caption has an author (0 to 9)");
        Due.sentence(2, "- author: 0 to 9");
        Contest x = new Contest().text("a");
        for (int author = 0; author <= 9; author++) {
            Due.is("author " + author, x.submit(author), author);
            Due.is("its author", x.caption(author, 0), author);
        }
        Due.sentence(2, "UNKNOWN (author)");
        for (int author : new int[] {-1, 10, 11, Due.NONE, Due.LEAST, Due.MOST}) {
            Due.is("author " + author, x.submit(author), Due.UNKNOWN);
        }
        Due.is("so far", x.count(1), 10);
    }

    private static void oneToSixtyCharacters() {
        Due.sentence(2, "a text of 1 to 60 characters; it is in the contest, or was withdrawn.");
        Contest x = new Contest();
        Due.is("no character", x.submit(0), -100);
        Due.is("one character", x.submit(0, "q"), 0);
        Due.is("its characters", x.caption(0, 2), 1);
        Due.is("its letters", x.caption(0, 3), 1);
        Due.is("two characters", x.submit(0, "q!"), 1);
        Due.is("its characters", x.caption(1, 2), 2);
        Due.is("sixty characters", x.submit(0, "b".repeat(60)), 2);
        Due.is("its characters", x.caption(2, 2), 60);
        Due.is("its letters", x.caption(2, 3), 60);
        Due.is("one letter of sixty", x.submit(0, "-".repeat(59) + "z"), 3);
        Due.is("its characters", x.caption(3, 2), 60);
        Due.is("its letters", x.caption(3, 3), 1);
        x.withdraw(2);
        Due.is("withdrawn", x.caption(2, 2), Due.UNKNOWN);
        Due.is("in the contest", x.caption(1, 2), 2);
    }

    private static boolean isOfCaptions(char c) {
        return c >= 'a' && c <= 'z' || c >= 'A' && c <= 'Z' || SIGNS.indexOf(c) >= 0;
    }

    private static void allCharacters() {
        Due.sentence(2, "Characters are letters from a to z and from A to Z, the blank, and the signs . , ! ? ' -");
        Contest x = new Contest();
        int calls = 0;
        int captions = 0;
        for (int code = 0; code <= 65535; code++) {
            if (calls > 500 || captions == 20) {
                x = new Contest();
                calls = 0;
                captions = 0;
            }
            char c = (char) code;
            int want = isOfCaptions(c) ? captions++ : -101;
            Due.is("b and character " + code, x.submit(0, "b" + c), want);
            calls += 4;
        }
        Due.sentence(2, "the length of the text if it has no letter.");
        for (int i = 0; i < SIGNS.length(); i++) {
            Due.is("a sign is no letter", new Contest().submit(0, SIGNS.substring(i, i + 1)), -101);
        }
        for (char c : new char[] {'a', 'z', 'A', 'Z'}) {
            Due.is("a letter", new Contest().submit(0, "" + c), 0);
        }
        for (char c : new char[] {'`', '{', '@', '['}) {
            Due.is("next to the letters", new Contest().submit(0, "" + c), -100);
        }
    }

    private static void faults() {
        Due.sentence(2, "The fault of the text, as a caption, is the index, from 0, of the first character that no "
                + "caption has, or the length of the text if it has no letter.");
        Contest x = new Contest();
        Due.is("the first character", x.submit(0, "1abc"), -100);
        Due.is("the last character", x.submit(0, "abc1"), -103);
        Due.is("the first of two", x.submit(0, "ab1c2"), -102);
        Due.is("all of them", x.submit(0, "123"), -100);
        Due.is("behind signs, without a letter", x.submit(0, " -7"), -102);
        Due.is("ahead of the only letter", x.submit(0, ".;a"), -101);
        Due.is("the first of 60", x.submit(0, "/" + "a".repeat(59)), -100);
        x.clearText();
        Due.is("no characters", x.submit(0), -100);
        Due.is("one sign", x.submit(0, "?"), -101);
        Due.is("two signs", x.submit(0, "?!"), -102);
        Due.sentence(2, "-100 minus the fault of the text if it has one (which is an error)");
        Due.is("the last of 60", x.submit(0, "a".repeat(59) + "/"), -159);
        Due.is("sixty signs", x.submit(0, "'".repeat(60)), -160);
        Due.is("no captions so far", x.count(1), 0);
        Due.is("no states", x.count(11), 0);
        Due.is("a letter ahead of signs", x.submit(0, "a?!"), 0);
        Due.is("a letter behind signs", x.submit(0, "?!Z"), 1);
    }

    private static void submitChecksInOrder() {
        Due.sentence(2, "Returns its number; UNKNOWN (author); -100 minus the fault of the text if it has one "
                + "(which is an error); FULL if there have been 20.");
        Contest x = new Contest();
        Due.is("author, fault", x.submit(10), Due.UNKNOWN);
        Due.is("author, fault", x.submit(-1, "a1"), Due.UNKNOWN);
        x.text("a");
        for (int i = 0; i < 20; i++) {
            Due.is("its number", x.submit(0), i);
        }
        Due.is("author, full", x.submit(10), Due.UNKNOWN);
        Due.is("fault, full", x.submit(0, "a1"), -101);
        Due.is("no letter, full", x.submit(0, "!"), -101);
        Due.is("author, fault, full", x.submit(-1), Due.UNKNOWN);
        Due.is("full", x.submit(0, "b"), Due.FULL);
    }

    private static void submitIsAnAct() {
        Due.sentence(2, "Hands in the text, which stays, as a caption. This is an act.");
        Contest x = new Contest().text("ab!");
        Due.is("hand in", x.submit(0), 0);
        Due.is("the text stays", x.count(12), 3);
        Due.is("a state", x.count(11), 1);
        Due.is("once more", x.submit(1), 1);
        Due.is("typed on", x.type('c'), 4);
        Due.is("as it was", x.caption(1, 2), 3);
        Due.is("hand in", x.submit(1), 2);
        Due.is("with what was typed", x.letter(2, 3), 'c');
        Due.is("three states", x.count(11), 3);
    }

    private static void sixtyCharactersTyped() {
        Due.sentence(10, "There is a text of at most 60 characters, empty at first.");
        Contest x = new Contest();
        Due.is("empty", x.count(12), 0);
        for (int length = 1; length <= 59; length++) {
            Due.is("type", x.type('a'), length);
        }
        Due.is("59", x.count(12), 59);
        Due.is("the sixtieth", x.type('b'), 60);
        Due.sentence(10, "Returns the length of the text then; FULL if it has 60 characters.");
        Due.is("the next one", x.type('c'), Due.FULL);
        Due.is("a character that no caption has", x.type('1'), Due.FULL);
        Due.is("still 60", x.count(12), 60);
        Due.is("hand in", x.submit(0), 0);
        Due.is("the sixtieth stays", x.letter(0, 59), 'b');
        Due.is("no 61st", x.letter(0, 60), Due.NONE);
        Due.is("clear", x.clearText(), 60);
        Due.is("room again", x.type('d'), 1);
    }

    private static void anyCharacter() {
        Due.sentence(10, "Types a character behind the text.");
        Due.sentence(10, "- character: any character");
        Contest x = new Contest();
        char[] some = {'\u0000', '\n', '0', '\u007f', '\u0080', '\u00ff', '\u0100', '\ud800', '\ufffe', '\uffff'};
        for (int i = 0; i < some.length; i++) {
            Due.is("character " + (int) some[i], x.type(some[i]), i + 1);
        }
        Due.is("the first of them", x.submit(0), -100);
        Due.is("not an act", x.count(11), 0);
        Contest y = new Contest().text("xy");
        y.submit(0);
        Due.is("the first", y.letter(0, 0), 'x');
        Due.is("behind it", y.letter(0, 1), 'y');
    }

    private static void cleared() {
        Due.sentence(11, "Empties the text.");
        Due.sentence(11, "Returns the length that it had.");
        Contest x = new Contest();
        Due.is("empty", x.clearText(), 0);
        x.type('a');
        Due.is("one", x.clearText(), 1);
        Due.is("empty again", x.clearText(), 0);
        x.text("c".repeat(60));
        Due.is("sixty", x.clearText(), 60);
        Due.is("no character", x.count(12), 0);
        Due.is("no text", x.submit(0), -100);
        Due.is("not an act", x.count(11), 0);
        x.text("ab");
        x.submit(0);
        x.clearText();
        Due.is("the caption stays", x.caption(0, 2), 2);
        Due.is("its letter", x.letter(0, 1), 'b');
        x.type('Q');
        x.submit(0);
        Due.is("what stood behind is gone", x.caption(1, 2), 1);
        Due.is("its letter", x.letter(1, 0), 'Q');
        Due.is("no other letter", x.letter(1, 1), Due.NONE);
    }

    private static void letters() {
        Due.sentence(16, "Returns the code of the character; UNKNOWN (caption); BAD_VALUE if place is negative; "
                + "NONE if the text has not so many.");
        String text = "aZ .,!?'-zA";
        Contest x = Contest.of(text, "q", "q".repeat(59) + "W");
        for (int place = 0; place < text.length(); place++) {
            Due.is("place " + place, x.letter(0, place), text.charAt(place));
        }
        Due.is("behind 11", x.letter(0, 11), Due.NONE);
        Due.is("the only one", x.letter(1, 0), 'q');
        Due.is("behind 1", x.letter(1, 1), Due.NONE);
        Due.is("the last of 60", x.letter(2, 59), 'W');
        Due.is("behind 60", x.letter(2, 60), Due.NONE);
        Due.is("most", x.letter(1, Due.MOST), Due.NONE);
        Due.is("negative", x.letter(1, -1), Due.BAD_VALUE);
        Due.is("NONE", x.letter(1, Due.NONE), Due.BAD_VALUE);
        Due.is("least", x.letter(1, Due.LEAST), Due.BAD_VALUE);
        Due.is("caption, place", x.letter(3, -1), Due.UNKNOWN);
        Due.is("caption, not so many", x.letter(3, 60), Due.UNKNOWN);
        x.withdraw(1);
        Due.is("withdrawn", x.letter(1, 0), Due.UNKNOWN);
        Due.is("withdrawn, place", x.letter(1, -1), Due.UNKNOWN);
        Due.is("withdrawn, not so many", x.letter(1, 1), Due.UNKNOWN);
        Due.sentence(16, "- caption: a caption");
        for (int caption : new int[] {-1, Due.NONE, 3, 20, Due.LEAST, Due.MOST}) {
            Due.is("caption " + caption, x.letter(caption, 0), Due.UNKNOWN);
        }
        Due.sentence(16, "- place: a place in its text, from 0");
        Due.is("the first", x.letter(0, 0), 'a');
    }

    private static char letterOf(int caption, int place) {
        return (char) ((place % 2 == 0 ? 'a' : 'A') + (caption + place) % 26);
    }

    private static void lettersOfTwentyTimesSixty() {
        Due.sentence(16, "Returns the code of the character");
        int tested = 0;
        while (tested < 20) {
            // a contest has calls enough to type some captions of sixty characters alone; the others have one
            Contest x = new Contest();
            int from = tested;
            for (int caption = 0; caption < 20; caption++) {
                boolean isLong = caption >= from && caption < from + 4;
                StringBuilder text = new StringBuilder();
                for (int place = 0; place < (isLong ? 60 : 1); place++) {
                    text.append(letterOf(caption, place));
                }
                Due.is("submit", x.submit(0, text.toString()), caption);
            }
            for (int caption = from; caption < from + 4; caption++) {
                for (int place = caption % 2; place < 60; place += 4) {
                    Due.is("letter " + place + " of " + caption, x.letter(caption, place), letterOf(caption, place));
                }
                Due.is("the last letter of " + caption, x.letter(caption, 59), letterOf(caption, 59));
                Due.is("no letter 60 of " + caption, x.letter(caption, 60), Due.NONE);
                Due.is("the letters of " + caption, x.caption(caption, 3), 60);
                tested++;
            }
        }
    }

    private static void cores() {
        Due.sentence(15, "The core of a caption is the row of its letters, great ones as small ones, without "
                + "anything else.");
        Contest x = Contest.of("az", "AZ", " .,!A?'-z", "za", "a", "aza", "azz", "aa z", "bz", "ay");
        int[] heads = {0, 0, 0, 3, 4, 5, 6, 7, 8, 9};
        int[] letters = {2, 2, 2, 2, 1, 3, 3, 3, 2, 2};
        for (int caption = 0; caption < heads.length; caption++) {
            Due.is("head of " + caption, x.caption(caption, 1), heads[caption]);
            Due.is("letters of " + caption, x.caption(caption, 3), letters[caption]);
        }
        Due.is("characters of 2", x.caption(2, 2), 9);
        Contest y = Contest.of("b".repeat(60), "b".repeat(59) + "c", "c" + "b".repeat(59));
        Due.is("the last letter of 60 is another", y.caption(1, 1), 1);
        Due.is("the first letter of 60 is another", y.caption(2, 1), 2);
        Due.sentence(15, "Two captions that are in the contest are alike if they have the same core.");
        Contest z = Contest.of("m", "n", "M.", "N", "m m");
        Due.is("alike", z.caption(2, 1), 0);
        Due.is("alike", z.caption(3, 1), 1);
        Due.is("the same letters, but more", z.caption(4, 1), 4);
        z.withdraw(0);
        Due.is("alike to a withdrawn one", z.caption(2, 1), 2);
        Due.is("alike to a withdrawn one", z.submit(0, "m"), 5);
        Due.is("alike to those in the contest", z.caption(5, 1), 2);
        z.withdraw(1);
        z.withdraw(3);
        Due.is("alike to withdrawn ones alone", z.submit(0, "n"), 6);
        Due.is("a group of its own", z.caption(6, 1), 6);
        Due.is("its captions", z.group(6, 0), 1);
    }

    private static void coresOfTheLastCaptions() {
        Due.sentence(15, "The core of a caption is the row of its letters");
        Contest x = new Contest().text("a");
        for (int caption = 0; caption < 18; caption++) {
            Due.is("submit", x.submit(0), caption);
        }
        x.submit(0, "q".repeat(59) + "r");
        x.submit(0, "q".repeat(59) + "s");
        Due.is("letters of the last one", x.caption(19, 3), 60);
        Due.is("only the last letters are others", x.caption(19, 1), 19);
        Due.is("one letter exchanged", x.distance(18, 19), 1);
        Due.is("one letter exchanged, the others put in", x.distance(0, 19), 60);
        Due.is("the nearest", x.near(0, 1), 19);
        x.undo();
        x.submit(0, "Q-".repeat(20) + "Q".repeat(20));
        x.undo();
        x.submit(0, "Q".repeat(59) + "R");
        Due.is("alike", x.caption(19, 1), 18);
        Due.is("no distance", x.distance(18, 19), 0);
    }

    private static void distances() {
        Due.sentence(22, "Tells how far two captions are from one another: the fewest letters of their cores that have "
                + "to be put in, left out, or exchanged for others, so that one core becomes the other.");
        Contest x = Contest.of("abcd", "A-b C!d", "xabcd", "abcdx", "abxcd", "bcd", "abc", "acd", "xbcd", "abcx",
                "bacd", "dabc", "dcba", "e");
        int[] wants = {0, 0, 1, 1, 1, 1, 1, 1, 1, 1, 2, 2, 4, 4};
        for (int other = 0; other < wants.length; other++) {
            Due.is("0 and " + other, x.distance(0, other), wants[other]);
            Due.is(other + " and 0", x.distance(other, 0), wants[other]);
            Due.is(other + " and itself", x.distance(other, other), 0);
        }
        Due.sentence(22, "Returns how many; UNKNOWN.");
        Due.sentence(22, "- one: a caption");
        Due.sentence(22, "- other: a caption");
        x.withdraw(3);
        for (int none : new int[] {-1, Due.NONE, 3, 14, 20, Due.LEAST, Due.MOST}) {
            Due.is("one " + none, x.distance(none, 0), Due.UNKNOWN);
            Due.is("other " + none, x.distance(0, none), Due.UNKNOWN);
            Due.is("both " + none, x.distance(none, none), Due.UNKNOWN);
        }
    }

    private static void distancesOfSixty() {
        Due.sentence(22, "the fewest letters of their cores");
        Contest x = Contest.of("a".repeat(60), "b".repeat(60), "A", "B");
        Due.is("all exchanged", x.distance(0, 1), 60);
        Due.is("all but one put in", x.distance(2, 0), 59);
        Due.is("all but one left out", x.distance(0, 2), 59);
        Due.is("one exchanged, the others put in", x.distance(3, 0), 60);
        Due.is("one exchanged", x.distance(2, 3), 1);
        String half = "xy".repeat(30);
        Contest y = Contest.of(half, half.substring(1) + "z", "z" + half.substring(0, 59), half.substring(1));
        Due.is("one left out ahead, one put in behind", y.distance(0, 1), 2);
        Due.is("one put in ahead, one left out behind", y.distance(0, 2), 2);
        Due.is("one left out of sixty", y.distance(0, 3), 1);
    }

    private static void nearest() {
        Due.sentence(23, "of distances up to 3.");
        Contest x = Contest.of("abcd", "abce", "abyz", "axyz", "wxyz");
        // 0-1: 1, 0-2: 2, 0-3: 3, 0-4: 4, 1-2: 2, 1-3: 3, 1-4: 4, 2-3: 1, 2-4: 2, 3-4: 1
        int[][] wants = {{0, 1, 1}, {2, 3, 1}, {3, 4, 1}, {0, 2, 2}, {1, 2, 2}, {2, 4, 2}, {0, 3, 3}, {1, 3, 3}};
        Due.sentence(23, "those with the least distance first, of several by the lower caption, then by the other one");
        for (int rank = 0; rank < wants.length; rank++) {
            for (int what = 0; what <= 2; what++) {
                Due.is("near " + rank + ", " + what, x.near(rank, what), wants[rank][what]);
            }
        }
        Due.is("distances of 4", x.near(8, 0), Due.NONE);
        Due.sentence(23, "Returns the number; BAD_VALUE (rank is negative, or what); NONE if there are not so many.");
        Due.is("most", x.near(Due.MOST, 2), Due.NONE);
        for (int rank : new int[] {-1, Due.NONE, Due.LEAST}) {
            Due.is("rank " + rank, x.near(rank, 0), Due.BAD_VALUE);
        }
        for (int what : new int[] {-1, 3, Due.LEAST, Due.MOST}) {
            Due.is("what " + what, x.near(0, what), Due.BAD_VALUE);
            Due.is("what " + what + ", not so many", x.near(8, what), Due.BAD_VALUE);
        }
        Due.sentence(23, "- rank: a rank, from 0");
        Due.sentence(23, "- what: 0 for the lower caption, 1 for the other one, 2 for the distance");
        Due.is("the lower one of the first pair", x.near(0, 0), 0);
        Due.is("the other one", x.near(0, 1), 1);
        Due.is("their distance", x.near(0, 2), 1);
    }

    private static void nearestOfGroups() {
        Due.sentence(23, "Tells pairs of captions of different groups that might be joined");
        Contest x = new Contest();
        Due.is("no captions", x.near(0, 0), Due.NONE);
        x.submit(0, "cab");
        Due.is("one caption", x.near(0, 0), Due.NONE);
        x.submit(0, "CAB");
        Due.is("alike ones", x.near(0, 0), Due.NONE);
        x.submit(0, "cap");
        Due.is("of two groups", x.near(0, 1), 2);
        Due.is("of two groups", x.near(1, 0), 1);
        Due.is("no more", x.near(2, 0), Due.NONE);
        x.join(0, 2);
        Due.is("joined ones", x.near(0, 0), Due.NONE);
        x.withdraw(0);
        Due.is("parted by the withdrawal", x.near(0, 0), 1);
        Due.is("withdrawn ones have no pair", x.near(1, 0), Due.NONE);
        Contest y = Contest.of("abc", "abcdef", "abcdefg", "ab");
        // three letters more are near, four are not: 0-3: 1, 1-2: 1, 0-1: 3
        Due.is("first", y.near(0, 1), 3);
        Due.is("second", y.near(1, 1), 2);
        Due.is("third", y.near(2, 2), 3);
        Due.is("no fourth", y.near(3, 2), Due.NONE);
    }

    private static void nearestOfCores() {
        Due.sentence(23, "those with the least distance first");
        Contest x = Contest.of("abc", "a-b-d!!!!", "......x.y.z", "aBcDeFg", "a, b, c, d, e, f, h, i, j");
        // the cores abc, abd, xyz, abcdefg and abcdefhij: signs do not count, neither for nor against being near
        int[][] wants = {{0, 1, 1}, {0, 2, 3}, {1, 2, 3}, {3, 4, 3}};
        for (int rank = 0; rank < wants.length; rank++) {
            for (int what = 0; what <= 2; what++) {
                Due.is("near " + rank + ", " + what, x.near(rank, what), wants[rank][what]);
            }
        }
        Due.is("no more", x.near(4, 0), Due.NONE);
    }

    private static void nearestMost() {
        Due.sentence(23, "Returns the number; BAD_VALUE (rank is negative, or what); NONE if there are not so many.");
        Contest x = new Contest();
        for (int i = 0; i < 20; i++) {
            x.submit(0, "" + (char) ('a' + i));
        }
        int rank = 0;
        for (int one = 0; one < 20; one++) {
            for (int other = one + 1; other < 20; other++) {
                Due.is("other of " + rank, x.near(rank, 1), other);
                rank++;
            }
        }
        Due.is("lower of the 190th", x.near(189, 0), 18);
        Due.is("no 191st", x.near(190, 0), Due.NONE);
    }
}
