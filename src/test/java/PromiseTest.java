/** For each promise of ../shared/DOC.md what it says of ordinary inputs, of edges and of wrong inputs. */
public final class PromiseTest {
    private static final int UNKNOWN = -1;
    private static final int BAD_VALUE = -2;
    private static final int FULL = -3;
    private static final int NONE = -5;
    private static final int LEAST = Integer.MIN_VALUE;
    private static final int MOST = Integer.MAX_VALUE;

    private static int wrong = 0;
    private static int checks = 0;
    private static String part = "";

    private static void due(String what, int got, int want) {
        checks++;
        if (got != want) {
            wrong++;
            System.out.println(part + ": " + what + " is " + got + ", due is " + want);
        }
    }

    private static CaptionTallies typed(CaptionTallies x, String text) {
        x.clearText();
        for (int i = 0; i < text.length(); i++) {
            x.type(text.charAt(i));
        }
        return x;
    }

    private static int submitted(CaptionTallies x, int author, String text) {
        return typed(x, text).submit(author);
    }

    /** A contest of captions of which the first is by author 0, the second by author 1, and so on. */
    private static CaptionTallies contest(String... texts) {
        CaptionTallies x = new CaptionTallies();
        for (int i = 0; i < texts.length; i++) {
            due("submit " + texts[i], submitted(x, i % 10, texts[i]), i);
        }
        return x;
    }

    private static String times(String text, int times) {
        return text.repeat(times);
    }

    public static void main(String[] args) {
        aNewObject();
        submit();
        withdraw();
        join();
        part();
        vote();
        voteWrong();
        score();
        set();
        prize();
        type();
        clearText();
        undo();
        undoBringsAllBack();
        textsComeBack();
        errorsRecordNothing();
        keep();
        restore();
        caption();
        letter();
        group();
        groupScores();
        tiesKept();
        tiesBroken();
        tiesBrokenByFirstWishes();
        tiesBrokenByRanks();
        scoresAheadOfFirstWishes();
        shares();
        judged();
        ballot();
        ranked();
        round();
        roundTies();
        roundRanks();
        distance();
        near();
        author();
        count();
        mostOfAll();
        System.out.println(checks + " checks, " + wrong + " wrong");
        if (wrong > 0) {
            System.exit(1);
        }
    }

    private static void aNewObject() {
        part = "1 a new object";
        CaptionTallies x = new CaptionTallies();
        int[] whats = {0, 1, 2, 3, 4, 5, 6, 7, 8, 9, 10, 11, 12, 21, 22, 23, 24, 25};
        int[] wants = {0, 0, 0, 0, 0, 0, 0, 0, 3, 0, 0, 0, 0, 100, 50, 20, 10, 5};
        for (int i = 0; i < whats.length; i++) {
            due("count " + whats[i], x.count(whats[i]), wants[i]);
        }
        due("undo", x.undo(), NONE);
        due("restore", x.restore(), NONE);
        due("ranked", x.ranked(0), NONE);
        due("round", x.round(0, 2), NONE);
        due("near", x.near(0, 0), NONE);
        for (int visitor = 0; visitor < 12; visitor++) {
            due("ballot", x.ballot(visitor, 0, false), NONE);
            due("ballot", x.ballot(visitor, 2, true), NONE);
        }
        for (int author = 0; author < 10; author++) {
            due("author", x.author(author, 0), 0);
            due("author gets", x.author(author, 1), 0);
            due("author's place", x.author(author, 2), NONE);
        }
        CaptionTallies y = contest("a");
        due("another object", new CaptionTallies().count(1), 0);
        due("the first object", y.count(1), 1);
    }

    private static void submit() {
        part = "2 submit";
        CaptionTallies x = new CaptionTallies();
        due("no text", x.submit(0), -100);
        due("author before the fault", x.submit(10), UNKNOWN);
        due("author -1", x.submit(-1), UNKNOWN);
        due("author least", x.submit(LEAST), UNKNOWN);
        due("signs alone", submitted(x, 0, " .,!?'-"), -107);
        due("a first character that is none", submitted(x, 0, "1a"), -100);
        due("behind letters", submitted(x, 0, "ab;cd:"), -102);
        due("no letter and a fault", submitted(x, 0, "  7"), -102);
        due("sixty blanks", submitted(x, 0, times(" ", 60)), -160);
        due("a fault at the end", submitted(x, 0, times("a", 59) + "\n"), -159);
        String none = "@[`{/;\"*+\u00e9\u0141\uffff\u0000\u007f_0\t&()";
        for (int i = 0; i < none.length(); i++) {
            due("character " + (int) none.charAt(i), submitted(x, 0, "z" + none.charAt(i)), -101);
        }
        due("nothing is recorded", x.count(11), 0);
        due("all characters", submitted(x, 9, "azAZ .,!?'-"), 0);
        due("its author", x.caption(0, 0), 9);
        due("the text stays", x.count(12), 11);
        due("once more", x.submit(0), 1);
        due("it is recorded", x.count(11), 2);
        x.type('b');
        due("the caption keeps its text", x.caption(1, 2), 11);
        due("a text of 60", submitted(x, 3, times("b", 60)), 2);
        due("60 characters", x.caption(2, 2), 60);
        due("one character", submitted(x, 3, "Q"), 3);
        for (int i = 4; i < 20; i++) {
            due("submit", x.submit(4), i);
        }
        due("twenty", x.submit(4), FULL);
        due("author before full", x.submit(12), UNKNOWN);
        x.withdraw(0);
        due("withdrawn ones count", x.submit(4), FULL);
        x.type('1');
        due("fault before full", x.submit(4), -101);
        x.clearText();
        due("no letter before full", x.submit(4), -100);
        typed(x, "A");
        x.undo();
        due("undo the withdrawal", x.submit(4), FULL);
        x.undo();
        due("undo the last one", x.submit(5), 19);
        due("the author of the new one", x.caption(19, 0), 5);
        due("the letter of the new one", x.letter(19, 0), 'A');
    }

    private static void withdraw() {
        part = "3 withdraw";
        CaptionTallies x = contest("a", "b", "A!", "c");
        x.join(1, 3);
        x.vote(0, 0, 1, 2);
        x.score(0, 0, 7);
        due("head of 2", x.caption(2, 1), 0);
        due("withdraw", x.withdraw(0), 3);
        due("withdrawn", x.withdraw(0), UNKNOWN);
        due("withdrawn is told no more", x.caption(0, 0), UNKNOWN);
        due("none", x.withdraw(4), UNKNOWN);
        due("negative", x.withdraw(-1), UNKNOWN);
        due("NONE", x.withdraw(NONE), UNKNOWN);
        due("most", x.withdraw(MOST), UNKNOWN);
        due("least", x.withdraw(LEAST), UNKNOWN);
        due("head of 2 then", x.caption(2, 1), 2);
        due("the ballot stays", x.ballot(0, 0, false), 0);
        due("it counts without", x.ballot(0, 0, true), 1);
        due("the others move up", x.ballot(0, 1, true), 2);
        due("judge's points of 2", x.judged(0, 2, 1), 0);
        due("so far", x.count(1), 4);
        due("withdraw 1", x.withdraw(1), 2);
        due("links stay", x.count(3), 1);
        due("links to withdrawn ones", x.caption(3, 4), 0);
        x.undo();
        x.undo();
        due("judge's points are back", x.judged(0, 2, 1), 7);
        due("withdraw to the last", x.withdraw(3) + x.withdraw(2) + x.withdraw(1) + x.withdraw(0), 6);
        due("groups", x.count(2), 0);
        due("ranked", x.ranked(0), NONE);
        due("ballots that count", x.count(4), 0);
    }

    private static void join() {
        part = "4 join";
        CaptionTallies x = contest("a", "b", "c", "d", "B.");
        due("join", x.join(3, 2), 2);
        due("join once more", x.join(2, 3), NONE);
        due("the same", x.join(1, 1), BAD_VALUE);
        due("unknown and the same", x.join(5, 5), UNKNOWN);
        due("other unknown", x.join(0, 20), UNKNOWN);
        due("one unknown", x.join(-1, 0), UNKNOWN);
        due("alike ones", x.join(1, 4), NONE);
        due("by a group", x.join(3, 4), 1);
        due("head of 2", x.caption(2, 1), 1);
        due("size", x.group(4, 0), 4);
        due("in one group by others", x.join(1, 2), NONE);
        due("links", x.count(3), 2);
        due("the link is of 4", x.caption(4, 4), 1);
        due("not of 1", x.caption(1, 4), 0);
        due("join with 0", x.join(4, 0), 0);
        due("one group", x.count(2), 1);
        due("both links of 4", x.caption(4, 4), 2);
        x.withdraw(4);
        due("parts fall apart", x.count(2), 3);
        due("head of 3", x.caption(3, 1), 2);
        due("link to a withdrawn one", x.join(4, 0), UNKNOWN);
        due("join again by others", x.join(0, 1), 0);
        due("links with those of withdrawn ones", x.count(3), 4);
        x.undo();
        due("undo", x.count(3), 3);
        x.undo();
        due("back in", x.count(2), 1);
    }

    private static void part() {
        part = "5 part";
        CaptionTallies x = contest("a", "b", "c", "B");
        due("no links", x.part(1), NONE);
        due("unknown", x.part(4), UNKNOWN);
        due("negative", x.part(-1), UNKNOWN);
        due("join", x.join(0, 1), 0);
        due("join", x.join(2, 1), 0);
        due("alike without a link", x.part(3), NONE);
        due("part 1", x.part(1), 1);
        due("no links of 0", x.part(0), NONE);
        due("links", x.count(3), 0);
        due("alike ones stay together", x.caption(3, 1), 1);
        due("groups", x.count(2), 3);
        due("states", x.count(11), 4);
        x.undo();
        due("links again", x.count(3), 2);
        due("part 2", x.part(2), 2);
        due("the other link stays", x.count(3), 1);
        x.withdraw(1);
        due("a link to a withdrawn one", x.part(0), 0);
        due("it is gone", x.count(3), 0);
        due("part 0 again", x.part(0), NONE);
        due("part a withdrawn one", x.part(1), UNKNOWN);
        x.join(2, 0);
        due("a link to 0 alone", x.part(2), 2);
        CaptionTallies y = contest("b", "c", "B");
        y.join(2, 1);
        due("part one whose group has a lower head", y.part(2), 0);
        due("and 1 is alone", y.caption(1, 1), 1);
    }

    private static void vote() {
        part = "6 vote";
        CaptionTallies x = contest("a", "b", "c", "d");
        due("no wish on an empty ballot", x.vote(0, NONE, NONE, NONE), NONE);
        due("one wish", x.vote(0, 3, NONE, NONE), 1);
        due("so already", x.vote(0, 3, NONE, NONE), NONE);
        due("two wishes", x.vote(0, 3, 1, NONE), 2);
        due("three wishes", x.vote(0, 3, 1, 0), 3);
        due("so already", x.vote(0, 3, 1, 0), NONE);
        due("another order", x.vote(0, 1, 3, 0), 3);
        due("another last one", x.vote(0, 1, 3, 2), 3);
        due("in its place", x.ballot(0, 0, false), 1);
        due("its second one", x.ballot(0, 1, false), 3);
        due("its third one", x.ballot(0, 2, false), 2);
        due("another ballot", x.ballot(1, 0, false), NONE);
        due("emptied", x.vote(0, NONE, NONE, NONE), 0);
        due("empty already", x.vote(0, NONE, NONE, NONE), NONE);
        due("the last visitor", x.vote(11, 2, 0, NONE), 2);
        due("the visitor before", x.vote(10, 2, 1, 0), 3);
        x.undo();
        x.withdraw(2);
        due("filled in with a withdrawn one", x.ballot(11, 0, false), 2);
        due("the same with a withdrawn one", x.vote(11, 2, 0, NONE), UNKNOWN);
        due("what is counted is not what was filled in", x.vote(11, 0, NONE, NONE), 1);
        x.undo();
        due("undo", x.ballot(11, 0, false), 2);
        due("visitor 0", x.ballot(0, 0, false), NONE);
        x.undo();
        due("undo the withdrawal", x.count(0), 4);
        due("undo the ballot of 11", x.undo(), 1);
        due("it was empty", x.ballot(11, 0, false), NONE);
        CaptionTallies y = contest("a", "A");
        due("two of one group", y.vote(4, 1, 0, NONE), 2);
    }

    private static void voteWrong() {
        part = "6 vote, wrong";
        CaptionTallies x = contest("a", "b", "c", "d");
        due("visitor 12", x.vote(12, 0, 1, 2), UNKNOWN);
        due("visitor -1", x.vote(-1, 0, 0, 0), UNKNOWN);
        due("visitor least", x.vote(LEAST, 0, 0, 0), UNKNOWN);
        due("first unknown", x.vote(0, 4, 1, 1), UNKNOWN);
        due("second unknown", x.vote(0, NONE, -1, 1), UNKNOWN);
        due("third unknown", x.vote(0, 1, 1, 20), UNKNOWN);
        due("third most", x.vote(0, 1, 1, MOST), UNKNOWN);
        due("behind a NONE", x.vote(0, NONE, 1, NONE), BAD_VALUE);
        due("third behind two", x.vote(0, NONE, NONE, 1), BAD_VALUE);
        due("third behind a NONE", x.vote(0, 2, NONE, 1), BAD_VALUE);
        due("twice", x.vote(0, 2, 2, NONE), BAD_VALUE);
        due("first and third", x.vote(0, 2, 1, 2), BAD_VALUE);
        due("second and third", x.vote(0, 1, 2, 2), BAD_VALUE);
        due("all the same", x.vote(0, 2, 2, 2), BAD_VALUE);
        due("nothing changed", x.ballot(0, 0, false), NONE);
        x.withdraw(3);
        due("a withdrawn one", x.vote(0, 0, 3, NONE), UNKNOWN);
    }

    private static void score() {
        part = "7 score";
        CaptionTallies x = contest("a", "b", "c", "A");
        due("judge 3", x.score(3, 0, 1), UNKNOWN);
        due("judge -1", x.score(-1, 0, 1), UNKNOWN);
        due("judge least", x.score(LEAST, 0, 1), UNKNOWN);
        due("caption unknown", x.score(0, 4, 11), UNKNOWN);
        due("caption negative", x.score(0, -1, 1), UNKNOWN);
        due("points 11", x.score(0, 0, 11), BAD_VALUE);
        due("points -1", x.score(0, 0, -1), BAD_VALUE);
        due("points NONE", x.score(0, 0, NONE), BAD_VALUE);
        due("no points are none", x.score(0, 0, 0), 1);
        due("no points already", x.score(0, 0, 0), NONE);
        due("ten", x.score(0, 1, 10), 1);
        due("ten already", x.score(0, 1, 10), NONE);
        due("five", x.score(0, 2, 5), 2);
        due("less", x.score(0, 3, 4), 3);
        due("the least of a group is not told", x.score(0, 0, 2), 3);
        due("by the best of the group", x.judged(0, 0, 1), 4);
        due("the same as another", x.score(0, 3, 5), 2);
        due("both then", x.judged(0, 2, 2), 2);
        due("another judge", x.score(2, 3, 1), 1);
        due("not by the judge 1", x.judged(1, 3, 0), NONE);
        due("again less", x.score(0, 1, 0), 3);
        x.withdraw(1);
        due("a withdrawn one", x.score(0, 1, 3), UNKNOWN);
    }

    private static void set() {
        part = "8 set";
        CaptionTallies x = new CaptionTallies();
        int[] least = {0, 0, 0};
        int[] most = {1, 5, 1};
        int[] first = {0, 3, 0};
        for (int what = 0; what < 3; what++) {
            due("below", x.set(what, -1), BAD_VALUE);
            due("least", x.set(what, LEAST), BAD_VALUE);
            due("above", x.set(what, most[what] + 1), BAD_VALUE);
            due("so already", x.set(what, first[what]), NONE);
            due("the most", x.set(what, most[what]), first[what]);
            due("told", x.count(7 + what), most[what]);
            due("the least", x.set(what, least[what]), most[what]);
            due("told", x.count(7 + what), least[what]);
            due("so already", x.set(what, least[what]), NONE);
        }
        due("what 3", x.set(3, 0), BAD_VALUE);
        due("what -1", x.set(-1, 0), BAD_VALUE);
        due("what most", x.set(MOST, 1), BAD_VALUE);
        x.undo();
        due("undo", x.count(9), 1);
    }

    private static void prize() {
        part = "9 prize";
        CaptionTallies x = new CaptionTallies();
        int[] first = {0, 100, 50, 20, 10, 5};
        for (int place = 1; place <= 5; place++) {
            due("below", x.prize(place, -1), BAD_VALUE);
            due("above", x.prize(place, 1000), BAD_VALUE);
            due("so already", x.prize(place, first[place]), NONE);
            due("the most", x.prize(place, 999), first[place]);
            due("told", x.count(20 + place), 999);
            due("nothing", x.prize(place, 0), 999);
            due("told", x.count(20 + place), 0);
        }
        due("place 0", x.prize(0, 1), BAD_VALUE);
        due("place 6", x.prize(6, 1), BAD_VALUE);
        due("place least", x.prize(LEAST, 1), BAD_VALUE);
        due("place most", x.prize(MOST, 1), BAD_VALUE);
        x.undo();
        due("undo", x.count(25), 999);
        CaptionTallies y = new CaptionTallies();
        for (int place = 1; place <= 5; place++) {
            due("nothing in the place of the first prize", y.prize(place, 0), first[place]);
            due("the first prize again", y.prize(place, first[place]), 0);
        }
    }

    private static void type() {
        part = "10 type";
        CaptionTallies x = new CaptionTallies();
        for (int i = 1; i <= 60; i++) {
            due("type", x.type(i == 30 ? '\uffff' : 'a'), i);
        }
        due("full", x.type('a'), FULL);
        due("full for any character", x.type('\u0000'), FULL);
        due("length", x.count(12), 60);
        due("a character that no caption has", x.submit(0), -129);
        due("not an act", x.count(11), 0);
        due("not undone", x.undo(), NONE);
        x.clearText();
        due("from the start again", x.type('b'), 1);
        x.submit(0);
        x.type('c');
        x.undo();
        due("undo leaves the text", x.count(12), 2);
    }

    private static void clearText() {
        part = "11 clearText";
        CaptionTallies x = new CaptionTallies();
        due("empty", x.clearText(), 0);
        typed(x, "xyz");
        due("three", x.clearText(), 3);
        due("empty again", x.clearText(), 0);
        due("length", x.count(12), 0);
        due("no text", x.submit(0), -100);
        due("not an act", x.count(11), 0);
        x.type('b');
        due("what stood there is gone", x.submit(0), 0);
        due("its length", x.caption(0, 2), 1);
        due("its letter", x.letter(0, 0), 'b');
        x.keep();
        x.clearText();
        x.restore();
        due("restore leaves the text", x.count(12), 0);
    }

    private static void undo() {
        part = "12 undo";
        CaptionTallies x = contest("a", "b", "c");
        due("three states", x.count(11), 3);
        x.prize(1, 1);
        due("four", x.count(11), 4);
        x.prize(1, 2);
        x.prize(1, 3);
        due("four at most", x.count(11), 4);
        due("undo", x.undo(), 3);
        due("the prize before", x.count(21), 2);
        due("undo", x.undo(), 2);
        due("the prize before", x.count(21), 1);
        due("undo", x.undo(), 1);
        due("the prize at first", x.count(21), 100);
        due("undo", x.undo(), 0);
        due("two captions", x.count(1), 2);
        due("the oldest ones are dropped", x.undo(), NONE);
        due("two captions still", x.count(1), 2);
        due("a new state", x.prize(2, 7), 50);
        due("one state", x.count(11), 1);
        due("undo", x.undo(), 0);
        due("the prize", x.count(22), 50);
    }

    private static void undoBringsAllBack() {
        part = "12 undo, all parts of a state";
        CaptionTallies x = contest("a", "b", "c");
        x.join(0, 1);
        x.undo();
        due("join", x.count(3), 0);
        x.join(0, 1);
        x.part(1);
        x.undo();
        due("part", x.caption(1, 1), 0);
        x.vote(3, 2, 1, NONE);
        x.undo();
        due("vote", x.ballot(3, 0, false), NONE);
        x.score(1, 2, 3);
        x.undo();
        due("score", x.judged(1, 2, 0), NONE);
        x.withdraw(2);
        x.undo();
        due("withdraw", x.count(0), 3);
        x.set(0, 1);
        x.undo();
        due("set", x.count(7), 0);
        x.prize(5, 6);
        x.undo();
        due("prize", x.count(25), 5);
        submitted(x, 7, "Dd");
        x.undo();
        due("submit", x.count(1), 3);
        due("and its caption", x.caption(3, 0), UNKNOWN);
        due("another in its place", submitted(x, 8, "a"), 3);
        due("its head", x.caption(3, 1), 0);
        due("its core", x.caption(3, 3), 1);
    }

    private static void textsComeBack() {
        part = "texts of captions come back by undo and restore";
        CaptionTallies x = contest("a");
        submitted(x, 4, "Bcd!");
        x.keep();
        x.undo();
        due("another one", submitted(x, 5, "a e fg"), 1);
        due("a, aefg", x.distance(0, 1), 3);
        due("restore", x.restore(), 2);
        due("author", x.caption(1, 0), 4);
        due("characters", x.caption(1, 2), 4);
        due("letters", x.caption(1, 3), 3);
        due("letter", x.letter(1, 0), 'B');
        due("last letter", x.letter(1, 3), '!');
        due("a, bcd", x.distance(0, 1), 3);
        x.undo();
        due("author", x.caption(1, 0), 5);
        due("letter", x.letter(1, 2), 'e');
        due("letters", x.caption(1, 3), 4);
        due("a, aefg", x.distance(0, 1), 3);
        x.undo();
        due("alike", submitted(x, 6, "A"), 1);
        due("head", x.caption(1, 1), 0);
        x.restore();
        due("not alike", x.caption(1, 1), 1);
        x.undo();
        due("alike again", x.caption(1, 1), 0);
    }

    private static void errorsRecordNothing() {
        part = "errors and NONE record nothing";
        CaptionTallies x = contest("a", "b", "A");
        x.withdraw(1);
        for (int i = 0; i < 6; i++) {
            x.undo();
        }
        due("no states", x.count(11), 0);
        int[] answers = {
            x.submit(10), x.withdraw(9), x.join(9, 0), x.join(0, 0), x.part(9), x.part(0), x.vote(12, 0, 0, 0),
            x.vote(0, 9, 0, 0), x.vote(0, NONE, 0, NONE), x.vote(0, NONE, NONE, NONE), x.score(3, 0, 0),
            x.score(0, 0, 11), x.set(9, 0), x.set(0, 0), x.prize(0, 0), x.prize(1, 100), x.undo(), x.restore()};
        for (int answer : answers) {
            due("an error or NONE", answer < 0 ? -1 : answer, -1);
        }
        due("still no states", x.count(11), 0);
        CaptionTallies y = contest("a", "A");
        due("joined already", y.join(0, 1), NONE);
        y.score(0, 0, 3);
        due("so many already", y.score(0, 0, 3), NONE);
        y.clearText();
        due("a fault", y.submit(0), -100);
        due("three states", y.count(11), 3);
    }

    private static void keep() {
        part = "13 keep";
        CaptionTallies x = contest("a", "b");
        due("keep", x.keep(), 2);
        due("not an act", x.count(11), 2);
        x.withdraw(0);
        due("keep in place of the other", x.keep(), 1);
        x.undo();
        due("undo leaves the snapshot", x.restore(), 1);
        due("withdrawn in the snapshot", x.caption(0, 0), UNKNOWN);
        CaptionTallies y = new CaptionTallies();
        due("keep nothing", y.keep(), 0);
        submitted(y, 0, "a");
        due("restore nothing", y.restore(), 0);
        due("no captions so far", y.count(1), 0);
    }

    private static void restore() {
        part = "14 restore";
        CaptionTallies x = contest("a", "b", "c");
        due("no snapshot", x.restore(), NONE);
        due("nothing is recorded", x.count(11), 3);
        x.join(0, 2);
        x.vote(5, 1, NONE, NONE);
        x.score(2, 1, 8);
        x.set(2, 1);
        x.prize(3, 33);
        x.keep();
        x.part(0);
        x.vote(5, 0, NONE, NONE);
        x.score(2, 1, 9);
        x.set(2, 0);
        x.prize(3, 34);
        submitted(x, 3, "d");
        x.withdraw(1);
        due("restore", x.restore(), 3);
        due("links", x.count(3), 1);
        due("ballot", x.ballot(5, 0, false), 1);
        due("points", x.judged(2, 1, 0), 8);
        due("setting", x.count(9), 1);
        due("prize", x.count(23), 33);
        due("so far", x.count(1), 3);
        due("an act", x.count(11), 4);
        due("once more", x.restore(), 3);
        due("undo", x.undo(), 3);
        due("undo", x.undo(), 2);
        due("as before", x.count(1), 4);
        due("the prize", x.count(23), 34);
        x.prize(3, 35);
        due("it stays", x.restore(), 3);
        due("the prize of the snapshot", x.count(23), 33);
        x.prize(3, 36);
        due("acts leave the snapshot", x.restore(), 3);
        due("the prize of the snapshot", x.count(23), 33);
    }

    private static void caption() {
        part = "15 caption";
        CaptionTallies x = contest("A b!", "c", "aB", "-x- y?");
        x.join(1, 3);
        x.join(3, 2);
        x.vote(0, 1, 2, 3);
        x.vote(1, 2, NONE, NONE);
        x.vote(11, 0, 3, 2);
        due("author", x.caption(2, 0), 2);
        due("head", x.caption(3, 1), 0);
        due("characters", x.caption(0, 2), 4);
        due("characters", x.caption(3, 2), 6);
        due("letters", x.caption(0, 3), 2);
        due("letters", x.caption(3, 3), 2);
        due("links", x.caption(3, 4), 2);
        due("links", x.caption(0, 4), 0);
        due("gets", x.caption(0, 5), 25);
        due("ballots", x.caption(2, 6), 3);
        due("ballots", x.caption(0, 6), 1);
        due("what 7", x.caption(0, 7), BAD_VALUE);
        due("what -1", x.caption(0, -1), BAD_VALUE);
        due("what most", x.caption(0, MOST), BAD_VALUE);
        due("unknown first", x.caption(4, 9), UNKNOWN);
        due("negative", x.caption(-1, 0), UNKNOWN);
        due("least", x.caption(LEAST, 0), UNKNOWN);
        due("twenty", x.caption(20, 0), UNKNOWN);
        x.withdraw(1);
        due("links to those in the contest", x.caption(3, 4), 1);
        due("withdrawn", x.caption(1, 6), UNKNOWN);
        due("gets the rest", x.caption(0, 5), 34);
        due("gets", x.caption(2, 5), 33);
        due("gets", x.caption(3, 5), 33);
        due("ballots as they were filled in", x.caption(3, 6), 2);
    }

    private static void letter() {
        part = "16 letter";
        CaptionTallies x = contest("aZ '-", times("q", 60));
        String text = "aZ '-";
        for (int place = 0; place < text.length(); place++) {
            due("letter", x.letter(0, place), text.charAt(place));
        }
        due("behind it", x.letter(0, 5), NONE);
        due("far behind it", x.letter(0, 60), NONE);
        due("most", x.letter(0, MOST), NONE);
        due("the last of 60", x.letter(1, 59), 'q');
        due("behind 60", x.letter(1, 60), NONE);
        due("negative", x.letter(0, -1), BAD_VALUE);
        due("least", x.letter(0, LEAST), BAD_VALUE);
        due("unknown first", x.letter(2, -1), UNKNOWN);
        x.withdraw(0);
        due("withdrawn", x.letter(0, 0), UNKNOWN);
    }

    private static void group() {
        part = "17 group";
        CaptionTallies x = contest("a", "b", "c", "A", "d");
        x.vote(0, 3, 0, 1);
        x.vote(1, 1, 2, 0);
        x.vote(2, 2, NONE, NONE);
        due("captions", x.group(3, 0), 2);
        due("captions of one", x.group(1, 0), 1);
        due("points of a", x.group(0, 1), 4);
        due("points of a by another", x.group(3, 1), 4);
        due("points of b, moved up", x.group(1, 1), 5);
        due("points of c", x.group(2, 1), 5);
        due("points of d", x.group(4, 1), 0);
        due("first wishes of a", x.group(0, 2), 1);
        due("first wishes of b", x.group(1, 2), 1);
        due("first wishes of c", x.group(2, 2), 1);
        due("what 8", x.group(0, 8), BAD_VALUE);
        due("what -1", x.group(0, -1), BAD_VALUE);
        due("what least", x.group(0, LEAST), BAD_VALUE);
        due("unknown first", x.group(5, 8), UNKNOWN);
        due("negative", x.group(-1, 0), UNKNOWN);
        x.withdraw(3);
        due("without the withdrawn one", x.group(0, 1), 4);
        due("captions", x.group(0, 0), 1);
        x.withdraw(1);
        due("moved up to the first wish", x.group(2, 1), 6);
        due("first wishes", x.group(2, 2), 2);
        due("moved up to the second wish", x.group(0, 1), 5);
        due("withdrawn", x.group(3, 0), UNKNOWN);
    }

    private static void groupScores() {
        part = "17 group, ranks, scores and rounds";
        CaptionTallies x = contest("a", "b", "c", "d");
        x.score(0, 0, 9);
        x.score(0, 1, 9);
        x.score(0, 2, 3);
        x.score(1, 3, 0);
        x.score(2, 3, 1);
        due("ranks of a", x.group(0, 3), 1 + 1 + 2);
        due("ranks of c", x.group(2, 3), 3 + 1 + 2);
        due("ranks of d", x.group(3, 3), 4 + 1 + 1);
        due("score without points", x.group(0, 4), 996);
        x.vote(0, 2, 3, NONE);
        due("score of c", x.group(2, 4), 1024);
        due("score of d", x.group(3, 4), 1014);
        due("place of c", x.group(2, 5), 1);
        due("place of d", x.group(3, 5), 2);
        due("place of a", x.group(0, 5), 3);
        due("place of b", x.group(1, 5), 3);
        due("c gets", x.group(2, 6), 100);
        due("d gets", x.group(3, 6), 50);
        due("a gets", x.group(0, 6), 10);
        due("b gets", x.group(1, 6), 10);
        due("round of d", x.group(3, 7), 0);
        due("round of b", x.group(1, 7), 1);
        due("round of a", x.group(0, 7), 2);
        due("c is left", x.group(2, 7), NONE);
        x.set(0, 1);
        due("place of c by rounds", x.group(2, 5), 1);
        due("place of a by rounds", x.group(0, 5), 2);
        due("place of b by rounds", x.group(1, 5), 3);
        due("place of d by rounds", x.group(3, 5), 4);
        due("b gets by rounds", x.group(1, 6), 20);
        due("d gets by rounds", x.group(3, 6), 0);
        due("score whatever the setting is", x.group(3, 4), 1014);
        x.join(0, 3);
        due("the most of its captions", x.group(3, 3), 1 + 1 + 1);
    }

    private static void tiesKept() {
        part = "ties are kept";
        CaptionTallies x = contest("a", "b", "c", "d", "e", "f");
        x.vote(0, 5, NONE, NONE);
        due("first", x.ranked(0), 5);
        for (int i = 0; i < 5; i++) {
            due("the lowest head first", x.ranked(1 + i), i);
            due("the same place", x.group(i, 5), 2);
            due("place 2 and 3 shared by five", x.group(i, 6), 14);
        }
        due("tied groups", x.count(10), 5);
        due("all get", x.count(6), 170);
        x.prize(3, 23);
        due("the rest", x.group(0, 6), 15);
        due("the rest", x.group(2, 6), 15);
        due("no rest", x.group(3, 6), 14);
        x.set(1, 5);
        due("50 + 23 + 10 + 5", x.group(0, 6), 18);
        due("50 + 23 + 10 + 5", x.group(2, 6), 18);
        due("50 + 23 + 10 + 5", x.group(3, 6), 17);
        x.set(1, 1);
        due("no prize", x.group(0, 6), 0);
        x.set(1, 0);
        due("no prizes", x.count(6), 0);
        due("places all the same", x.group(0, 5), 2);
    }

    private static void tiesBroken() {
        part = "ties are broken";
        CaptionTallies x = contest("a", "b", "c", "d");
        x.set(2, 1);
        for (int i = 0; i < 4; i++) {
            due("by the lower head", x.ranked(i), i);
            due("its place", x.group(i, 5), i + 1);
        }
        due("no ties", x.count(10), 0);
        // c: two second wishes less ranks of 13 make 27; d: a first wish less ranks of 3
        CaptionTallies y = contest("a", "b", "c", "d", "e", "f", "g");
        y.vote(0, 0, 1, NONE);
        y.vote(1, 2, 1, NONE);
        y.score(0, 3, 9);
        y.score(1, 3, 9);
        y.score(2, 3, 9);
        y.score(0, 4, 8);
        y.score(1, 4, 8);
        y.score(2, 4, 8);
        // b has 4 points and ranks of 3 * 3 = 9; a and c have 3 points and the same ranks
        due("score of b", y.group(1, 4), 1031);
        due("score of a", y.group(0, 4), 1021);
        due("place of c, kept", y.group(2, 5), 2);
        due("tied", y.count(10), 2 + 2);
        y.set(2, 1);
        due("place of c, broken", y.group(2, 5), 3);
        due("f ahead of g", y.group(5, 5), 6);
        due("g", y.group(6, 5), 7);
        CaptionTallies z = contest("a", "b");
        z.vote(0, 0, NONE, NONE);
        z.vote(1, 0, NONE, NONE);
        z.vote(2, 1, 0, NONE);
        z.vote(3, 1, 0, NONE);
        z.vote(4, 1, NONE, NONE);
        z.vote(5, 0, NONE, NONE);
        z.vote(6, 0, NONE, NONE);
        z.vote(7, 1, 0, NONE);
        // a: 4 first and 3 second wishes, 18 points; b: 4 first wishes, 12 points
        due("a", z.group(0, 1), 18);
        due("b", z.group(1, 1), 12);
        z.vote(0, 1, NONE, NONE);
        z.vote(1, NONE, NONE, NONE);
        due("a", z.group(0, 1), 12);
        due("b", z.group(1, 1), 15);
        z.vote(0, NONE, NONE, NONE);
        due("both have as many points", z.group(1, 1), 12);
        due("tied", z.group(1, 5), 1);
        z.set(2, 1);
        due("b by more first wishes", z.ranked(0), 1);
        due("a behind it", z.group(0, 5), 2);
        z.set(2, 0);
        due("kept, the lowest head first", z.ranked(0), 0);
        due("a shares", z.group(0, 6), 75);
    }

    /** A contest of twelve, in which a has ranks of 13, and another one, b, has ranks of 3. */
    private static CaptionTallies withRanksOf13And3(int b) {
        CaptionTallies x = contest("a", "b", "c", "d", "e", "f", "g", "h", "i", "j", "k", "l");
        for (int judge = 0; judge < 3; judge++) {
            x.score(judge, b, 10);
            x.score(judge, 2, 9);
            x.score(judge, 3, 9);
            x.score(judge, 0, 8);
        }
        x.score(0, 4, 9);
        due("ranks of a", x.group(0, 3), 13);
        due("ranks of b", x.group(b, 3), 3);
        return x;
    }

    private static void tiesBrokenByFirstWishes() {
        part = "ties are broken by first wishes ahead of ranks and heads";
        CaptionTallies x = withRanksOf13And3(1);
        x.vote(0, 0, 5, 1);
        x.vote(1, 5, 1, 0);
        due("score of a", x.group(0, 4), 1027);
        due("score of b", x.group(1, 4), 1027);
        due("first wishes of a", x.group(0, 2), 1);
        due("first wishes of b", x.group(1, 2), 0);
        due("a and b tie", x.group(1, 5), x.group(0, 5));
        x.set(2, 1);
        due("a ahead of b", x.group(0, 5), 2);
        due("b behind a", x.group(1, 5), 3);
        due("f is first", x.ranked(0), 5);
        CaptionTallies y = withRanksOf13And3(1);
        y.vote(0, 1, NONE, NONE);
        y.vote(1, 5, 0, NONE);
        y.vote(2, 5, 0, NONE);
        y.set(2, 1);
        due("score of a", y.group(0, 4), 1027);
        due("score of b", y.group(1, 4), 1027);
        due("b ahead of a by its first wish", y.group(1, 5), 2);
        due("a behind b", y.group(0, 5), 3);
    }

    private static void tiesBrokenByRanks() {
        part = "ties are broken by ranks ahead of heads";
        for (int b = 1; b < 12; b += 10) {
            CaptionTallies x = withRanksOf13And3(b);
            x.vote(0, b, 5, 0);
            x.vote(1, 0, NONE, NONE);
            due("score of a", x.group(0, 4), 1027);
            due("score of b", x.group(b, 4), 1027);
            due("the lowest head first", x.ranked(0), 0);
            due("they share", x.group(b, 6), 75);
            x.set(2, 1);
            due("b by its ranks", x.ranked(0), b);
            due("place of b", x.group(b, 5), 1);
            due("place of a", x.group(0, 5), 2);
            due("b gets", x.group(b, 6), 100);
        }
    }

    private static void scoresAheadOfFirstWishes() {
        part = "scores come ahead of first wishes";
        CaptionTallies x = contest("a", "b", "c");
        x.vote(0, 0, NONE, NONE);
        x.vote(1, 0, NONE, NONE);
        for (int visitor = 2; visitor < 5; visitor++) {
            x.vote(visitor, 2, 1, NONE);
        }
        x.score(0, 1, 1);
        due("score of a with two first wishes", x.group(0, 4), 1056);
        due("score of b with none", x.group(1, 4), 1057);
        x.set(2, 1);
        due("b ahead of a", x.ranked(1), 1);
        due("a behind b", x.ranked(2), 0);
    }

    private static void shares() {
        part = "shares of those who tie and of those who wrote alike";
        CaptionTallies x = contest("a", "b", "B", "b!", "A", "c");
        due("groups of 2, 3 and 1 share 170", x.group(0, 6), 57);
        due("b", x.group(3, 6), 57);
        due("c", x.group(5, 6), 56);
        due("first of a", x.caption(0, 5), 29);
        due("second of a", x.caption(4, 5), 28);
        due("first of b", x.caption(1, 5), 19);
        due("second of b", x.caption(2, 5), 19);
        due("third of b", x.caption(3, 5), 19);
        x.prize(1, 104);
        due("a", x.group(0, 6), 58);
        due("c", x.group(5, 6), 58);
        due("b", x.group(1, 6), 58);
        due("the rest to the lowest number", x.caption(1, 5), 20);
        due("no rest", x.caption(2, 5), 19);
        due("no rest", x.caption(3, 5), 19);
        x.withdraw(1);
        due("the next one", x.caption(2, 5), 29);
        CaptionTallies y = contest("a", "b");
        due("both get", y.count(6), 150);
        due("both tie", y.count(10), 2);
        y.withdraw(0);
        due("the other gets", y.count(6), 100);
        due("no ties", y.count(10), 0);
        due("the other is first", y.ranked(0), 1);
        due("the only one", y.ranked(1), NONE);
        y.withdraw(1);
        due("nobody gets", y.count(6), 0);
    }

    private static void judged() {
        part = "18 judged";
        CaptionTallies x = contest("a", "b", "c", "A");
        x.score(1, 0, 4);
        x.score(1, 3, 0);
        x.score(1, 2, 6);
        due("points", x.judged(1, 0, 0), 4);
        due("no points", x.judged(1, 3, 0), 0);
        due("none", x.judged(1, 1, 0), NONE);
        due("none by another judge", x.judged(2, 0, 0), NONE);
        due("points for the group", x.judged(1, 3, 1), 4);
        due("none for the group", x.judged(1, 1, 1), 0);
        due("rank", x.judged(1, 3, 2), 2);
        due("rank", x.judged(1, 2, 2), 1);
        due("rank", x.judged(1, 1, 2), 3);
        due("rank without points", x.judged(0, 1, 2), 1);
        due("what 3", x.judged(1, 0, 3), BAD_VALUE);
        due("what -1", x.judged(1, 0, -1), BAD_VALUE);
        due("judge 3", x.judged(3, 0, 3), UNKNOWN);
        due("judge -1", x.judged(-1, 0, 0), UNKNOWN);
        due("caption unknown", x.judged(0, 4, 3), UNKNOWN);
        due("caption negative", x.judged(0, LEAST, 0), UNKNOWN);
        x.join(1, 2);
        due("rank of a group counts groups", x.judged(1, 0, 2), 2);
        due("rank of the joined", x.judged(1, 1, 2), 1);
        x.withdraw(2);
        due("rank then", x.judged(1, 0, 2), 1);
        due("withdrawn", x.judged(1, 2, 0), UNKNOWN);
    }

    private static void ballot() {
        part = "19 ballot";
        CaptionTallies x = contest("a", "b", "A", "c");
        x.vote(0, 2, 0, 1);
        x.vote(1, 1, 3, 0);
        due("as it was filled in", x.ballot(0, 0, false), 2);
        due("as it was filled in", x.ballot(0, 1, false), 0);
        due("as it was filled in", x.ballot(0, 2, false), 1);
        due("the caption, not the head", x.ballot(0, 0, true), 2);
        due("moved up", x.ballot(0, 1, true), 1);
        due("none is left", x.ballot(0, 2, true), NONE);
        due("visitor 12", x.ballot(12, 3, true), UNKNOWN);
        due("visitor -1", x.ballot(-1, 0, false), UNKNOWN);
        due("wish 3", x.ballot(0, 3, false), BAD_VALUE);
        due("wish -1", x.ballot(11, -1, true), BAD_VALUE);
        due("wish -1 of another visitor", x.ballot(1, -1, false), BAD_VALUE);
        due("an empty one", x.ballot(11, 0, true), NONE);
        x.join(3, 1);
        due("joined ones count once", x.ballot(1, 1, true), 0);
        due("joined ones count once", x.ballot(1, 2, true), NONE);
        due("filled in all the same", x.ballot(1, 1, false), 3);
        x.withdraw(1);
        due("withdrawn ones too", x.ballot(1, 0, false), 1);
        due("without the withdrawn one", x.ballot(1, 0, true), 3);
        due("without the withdrawn one", x.ballot(1, 1, true), 0);
        x.withdraw(2);
        due("the wish of a withdrawn one's group stays", x.ballot(0, 0, true), 0);
    }

    private static void ranked() {
        part = "20 ranked";
        CaptionTallies x = contest("a", "b", "c", "B");
        x.vote(0, 3, 2, NONE);
        due("first by its head", x.ranked(0), 1);
        due("second", x.ranked(1), 2);
        due("third", x.ranked(2), 0);
        due("no more", x.ranked(3), NONE);
        due("most", x.ranked(MOST), NONE);
        due("negative", x.ranked(-1), BAD_VALUE);
        due("NONE", x.ranked(NONE), BAD_VALUE);
        due("least", x.ranked(LEAST), BAD_VALUE);
        x.set(0, 1);
        due("the one that is left", x.ranked(0), 1);
        due("the last round", x.ranked(1), 0);
        due("the first round", x.ranked(2), 2);
        due("no more", x.ranked(3), NONE);
    }

    private static void round() {
        part = "21 round";
        CaptionTallies x = contest("a", "b", "c", "C");
        x.vote(0, 0, NONE, NONE);
        x.vote(1, 0, NONE, NONE);
        x.vote(2, 1, 3, 0);
        x.vote(3, 2, 1, NONE);
        x.vote(4, 2, NONE, NONE);
        due("left out", x.round(0, 0), 1);
        due("its ballots", x.round(0, 1), 1);
        due("for none", x.round(0, 2), 7);
        due("left out, as 1's ballot went to 3", x.round(1, 0), 0);
        due("its ballots", x.round(1, 1), 2);
        due("for none", x.round(1, 2), 7);
        due("no more", x.round(2, 0), NONE);
        due("no more", x.round(MOST, 2), NONE);
        due("negative", x.round(-1, 0), BAD_VALUE);
        due("least", x.round(LEAST, 0), BAD_VALUE);
        due("what 3", x.round(0, 3), BAD_VALUE);
        due("what -1", x.round(0, -1), BAD_VALUE);
        due("what before the number of rounds", x.round(9, 3), BAD_VALUE);
        x.set(0, 1);
        due("whatever the setting is", x.round(0, 0), 1);
        x.withdraw(2);
        due("without the withdrawn one", x.round(0, 0), 3);
        due("no ballot", x.round(0, 1), 0);
        due("for none", x.round(0, 2), 8);
        due("of two with as many ballots", x.round(1, 0), 1);
        due("the withdrawn one's ballot went to it", x.round(1, 1), 2);
        x.withdraw(0);
        x.withdraw(1);
        due("one group has no rounds", x.round(0, 0), NONE);
        due("and is left", x.group(3, 7), NONE);
        due("in place 1", x.group(3, 5), 1);
    }

    private static void roundTies() {
        part = "21 round, several with the fewest ballots";
        CaptionTallies x = contest("a", "b", "c", "d");
        due("the greatest head", x.round(0, 0), 3);
        due("its ballots", x.round(0, 1), 0);
        due("all for none", x.round(0, 2), 12);
        due("the next one", x.round(1, 0), 2);
        due("the last one", x.round(2, 0), 1);
        x.score(0, 3, 5);
        x.score(0, 1, 5);
        due("the greatest sum of ranks", x.round(0, 0), 2);
        due("of these the greatest head", x.round(1, 0), 0);
        due("then", x.round(2, 0), 3);
        x.vote(0, 0, 2, NONE);
        x.vote(1, 2, NONE, NONE);
        due("fewest ballots first", x.round(0, 0), 3);
        due("for none", x.round(0, 2), 10);
        due("then 1", x.round(1, 0), 1);
        due("ranks are of all groups", x.group(2, 3), 5);
        due("then 2", x.round(2, 0), 2);
        due("with a ballot", x.round(2, 1), 1);
        CaptionTallies y = contest("a", "b", "c");
        y.vote(0, 2, 1, 0);
        due("out first", y.round(0, 0), 1);
        y.vote(1, 1, 2, NONE);
        y.vote(2, 0, 2, NONE);
        y.score(1, 2, 9);
        due("b by its head", y.round(0, 0), 1);
        due("a then", y.round(1, 0), 0);
        due("with a ballot of its own", y.round(1, 1), 1);
        due("for none", y.round(1, 2), 9);
        // once b is out, a visitor whose wishes are all out counts for none
        y.vote(1, 1, NONE, NONE);
        due("for none", y.round(1, 2), 10);
    }

    private static void roundRanks() {
        part = "21 round, ranks are among all groups, also those that were left out";
        CaptionTallies x = contest("a", "b", "c", "d");
        x.score(0, 1, 2);
        x.score(0, 2, 1);
        x.score(0, 3, 1);
        x.score(1, 0, 1);
        x.score(2, 0, 1);
        x.vote(0, 0, NONE, NONE);
        x.vote(1, 1, NONE, NONE);
        due("ranks of a", x.group(0, 3), 4 + 1 + 1);
        due("ranks of b", x.group(1, 3), 1 + 2 + 2);
        due("d first", x.round(0, 0), 3);
        due("then c", x.round(1, 0), 2);
        due("a, though b has the greater sum among those two", x.round(2, 0), 0);
        due("b is left", x.group(1, 7), NONE);
        CaptionTallies y = contest("a", "b", "c", "d");
        y.vote(0, 3, 2, 1);
        y.vote(1, 0, NONE, NONE);
        y.vote(2, 1, NONE, NONE);
        y.vote(3, 1, NONE, NONE);
        y.vote(4, 0, NONE, NONE);
        due("c first", y.round(0, 0), 2);
        due("then d", y.round(1, 0), 3);
        due("the third wish counts then", y.round(2, 0), 0);
        due("against three", y.round(2, 1), 2);
        due("for none", y.round(2, 2), 7);
    }

    private static void distance() {
        part = "22 distance";
        CaptionTallies x = contest("kitten", "Sitting!", "kitten?", "a", times("a", 60), times("b", 60), "ab", "ba");
        due("kitten, sitting", x.distance(0, 1), 3);
        due("the other way", x.distance(1, 0), 3);
        due("alike", x.distance(0, 2), 0);
        due("itself", x.distance(1, 1), 0);
        due("put in", x.distance(3, 4), 59);
        due("left out", x.distance(4, 3), 59);
        due("all exchanged", x.distance(4, 5), 60);
        due("no swap", x.distance(6, 7), 2);
        due("nothing in common", x.distance(0, 3), 6);
        due("unknown", x.distance(0, 8), UNKNOWN);
        due("unknown", x.distance(8, 0), UNKNOWN);
        due("negative", x.distance(-1, -1), UNKNOWN);
        due("least", x.distance(LEAST, 0), UNKNOWN);
        x.withdraw(0);
        due("withdrawn", x.distance(0, 1), UNKNOWN);
        due("withdrawn", x.distance(1, 0), UNKNOWN);
        CaptionTallies y = contest("intention", "execution", "i n-tention", "axxxxb", "bxxxxa", "xab", "abx");
        due("intention, execution", y.distance(0, 1), 5);
        due("signs do not count", y.distance(0, 2), 0);
        due("two exchanged", y.distance(3, 4), 2);
        due("one left out, one put in", y.distance(5, 6), 2);
    }

    private static void near() {
        part = "23 near";
        CaptionTallies x = contest("abcd", "abce", "abxyz", "abcd", "wvu", "abc", "w");
        // 0-1: 1, 0-2: 3, 0-5: 1, 1-2: 3, 1-3: 1, 1-5: 1, 2-3: 3, 2-5: 3, 3-5: 1, 4-5: 3, 4-6: 2, 5-6: 3
        int[][] wants = {
            {0, 1, 1}, {0, 5, 1}, {1, 3, 1}, {1, 5, 1}, {3, 5, 1}, {4, 6, 2},
            {0, 2, 3}, {1, 2, 3}, {2, 3, 3}, {2, 5, 3}, {4, 5, 3}, {5, 6, 3}};
        for (int rank = 0; rank < wants.length; rank++) {
            for (int what = 0; what < 3; what++) {
                due("near " + rank + " " + what, x.near(rank, what), wants[rank][what]);
            }
        }
        due("no more", x.near(wants.length, 0), NONE);
        due("most", x.near(MOST, 2), NONE);
        due("negative", x.near(-1, 0), BAD_VALUE);
        due("least", x.near(LEAST, 0), BAD_VALUE);
        due("what 3", x.near(0, 3), BAD_VALUE);
        due("what -1", x.near(0, -1), BAD_VALUE);
        due("what before the number of pairs", x.near(99, 3), BAD_VALUE);
        x.join(1, 5);
        due("those of one group do not count", x.near(0, 1), 1);
        due("second", x.near(1, 1), 5);
        due("third", x.near(2, 0), 1);
        due("fourth", x.near(3, 0), 3);
        x.withdraw(0);
        due("withdrawn ones do not count", x.near(0, 0), 1);
        due("with", x.near(0, 1), 3);
        CaptionTallies y = contest("aaaa", "bbbb");
        due("a distance of 4", y.near(0, 0), NONE);
        CaptionTallies z = contest("bcd", "abcdef", "abcdefg");
        due("three letters more", z.near(1, 1), 1);
        due("their distance", z.near(1, 2), 3);
        due("four letters more", z.near(2, 0), NONE);
    }

    private static void author() {
        part = "24 author";
        CaptionTallies x = new CaptionTallies();
        submitted(x, 9, "a");
        submitted(x, 9, "b");
        submitted(x, 0, "A");
        submitted(x, 9, "c");
        submitted(x, 3, "d");
        x.vote(0, 1, 0, NONE);
        due("captions", x.author(9, 0), 3);
        due("captions", x.author(0, 0), 1);
        due("captions", x.author(1, 0), 0);
        due("gets", x.author(9, 1), 100 + 25 + 10);
        due("gets", x.author(0, 1), 25);
        due("gets", x.author(3, 1), 10);
        due("gets", x.author(1, 1), 0);
        due("place", x.author(9, 2), 1);
        due("place by a group with others", x.author(0, 2), 2);
        due("place", x.author(3, 2), 3);
        due("no place", x.author(1, 2), NONE);
        due("what 3", x.author(9, 3), BAD_VALUE);
        due("what -1", x.author(1, -1), BAD_VALUE);
        due("author 10", x.author(10, 3), UNKNOWN);
        due("author -1", x.author(-1, 0), UNKNOWN);
        due("author least", x.author(LEAST, 0), UNKNOWN);
        x.withdraw(1);
        due("without the withdrawn one", x.author(9, 0), 2);
        due("gets", x.author(9, 1), 50 + 35);
        due("place", x.author(9, 2), 1);
        x.vote(1, 4, NONE, NONE);
        x.vote(2, 4, NONE, NONE);
        due("place after ballots", x.author(0, 2), 2);
        x.withdraw(4);
        due("all withdrawn", x.author(3, 2), NONE);
        due("all withdrawn", x.author(3, 1), 0);
    }

    private static void count() {
        part = "25 count";
        CaptionTallies x = contest("a", "b", "A", "c", "d");
        x.join(1, 3);
        x.join(3, 4);
        x.vote(0, 2, 0, 3);
        x.vote(1, 3, NONE, NONE);
        x.vote(2, 4, 1, NONE);
        x.withdraw(3);
        due("in the contest", x.count(0), 4);
        due("so far", x.count(1), 5);
        due("groups", x.count(2), 3);
        due("links", x.count(3), 2);
        due("ballots that count", x.count(4), 2);
        due("points", x.count(5), 3 + 3 + 2);
        due("get together", x.count(6), 170);
        due("tied", x.count(10), 2);
        due("states", x.count(11), 4);
        due("length", x.count(12), 1);
        x.set(1, 2);
        due("get together", x.count(6), 150);
        due("places with prizes", x.count(8), 2);
        x.set(0, 1);
        due("method", x.count(7), 1);
        x.set(2, 1);
        due("tie rule", x.count(9), 1);
        x.vote(2, 0, NONE, NONE);
        x.vote(0, 1, NONE, NONE);
        x.set(2, 0);
        due("no ties by the method 1", x.count(10), 0);
        x.set(0, 0);
        due("ties by the method 0", x.count(10), 2);
        x.set(2, 1);
        due("no ties by the tie rule 1", x.count(10), 0);
        int[] bad = {-1, NONE, LEAST, 13, 14, 19, 20, 26, 27, MOST};
        for (int what : bad) {
            due("count " + what, x.count(what), BAD_VALUE);
        }
        for (int place = 1; place <= 5; place++) {
            x.prize(place, 500 + place);
        }
        for (int place = 1; place <= 5; place++) {
            due("prize", x.count(20 + place), 500 + place);
        }
    }

    private static void mostOfAll() {
        part = "the most of all";
        CaptionTallies x = new CaptionTallies();
        for (int i = 0; i < 20; i++) {
            due("submit", submitted(x, i % 10, times("ab", i + 1)), i);
        }
        due("groups", x.count(2), 20);
        due("tied", x.count(10), 20);
        x.set(1, 5);
        due("185 for twenty", x.group(0, 6), 10);
        due("185 for twenty", x.group(5, 6), 9);
        due("all of it", x.count(6), 185);
        for (int visitor = 0; visitor < 12; visitor++) {
            due("vote", x.vote(visitor, 19, 18, 17), 3);
        }
        for (int judge = 0; judge < 3; judge++) {
            for (int i = 0; i < 19; i++) {
                x.score(judge, i, 1);
            }
        }
        due("the greatest rank", x.judged(0, 19, 2), 20);
        due("the greatest sum of ranks", x.group(19, 3), 60);
        due("score", x.group(19, 4), 1300);
        due("the least score", x.group(0, 4), 997);
        due("rounds", x.round(18, 0), 0);
        due("no more", x.round(19, 0), NONE);
        due("left", x.group(19, 7), NONE);
        for (int i = 1; i < 20; i++) {
            due("join", x.join(i, i - 1), 0);
        }
        due("one group", x.group(19, 0), 20);
        due("its points", x.count(5), 36);
        due("its shares", x.caption(19, 5), 5);
        x.part(10);
        due("three groups", x.count(2), 3);
        due("the head of the last", x.caption(19, 1), 11);
    }
}
