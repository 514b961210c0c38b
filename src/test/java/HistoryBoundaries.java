import java.util.ArrayList;
import java.util.List;

/** The boundaries of a new object, of the history and the snapshot, and of calls that change nothing. */
final class HistoryBoundaries {
    private interface Call {
        int on(Contest x);
    }

    private HistoryBoundaries() {
    }

    static void all() {
        constants();
        newObject();
        manyCalls();
        fourStates();
        undoneInOrder();
        undoneToNothing();
        actsAreRecorded();
        actsAreUndone();
        othersAreNotRecorded();
        whatNoStateHas();
        kept();
        restored();
        restoredOnceMore();
        restoredInPlaceOfOthers();
        noSnapshot();
        refusedCallsChangeNothing();
        fullTextChangesNothing();
        fullContestChangesNothing();
    }

    private static void constants() {
        Due.sentence(1, "Errors are reported by the constants below.");
        Due.sentence(1, "UNKNOWN = -1: There is no such caption (or it was withdrawn), author, visitor or judge.");
        Due.is("UNKNOWN", CaptionTallies.UNKNOWN, -1);
        Due.sentence(1, "BAD_VALUE = -2: Another argument is out of range.");
        Due.is("BAD_VALUE", CaptionTallies.BAD_VALUE, -2);
        Due.sentence(1, "FULL = -3: There is no more room.");
        Due.is("FULL", CaptionTallies.FULL, -3);
        Due.sentence(1, "NOT_POSSIBLE = -4: This is not possible.");
        Due.is("NOT_POSSIBLE", CaptionTallies.NOT_POSSIBLE, -4);
        Due.sentence(1, "NONE = -5: There is no such thing; not an error.");
        Due.is("NONE", CaptionTallies.NONE, -5);
    }

    private static void newObject() {
        Due.sentence(1, "CaptionTallies(): Creates a contest without captions.");
        Contest x = new Contest();
        int[] counts = {0, 0, 0, 0, 0, 0, 0, 0, 3, 0, 0, 0, 0};
        for (int what = 0; what < counts.length; what++) {
            Due.is("count " + what, x.count(what), counts[what]);
        }
        for (int caption = 0; caption < 20; caption++) {
            Due.is("caption", x.caption(caption, 0), Due.UNKNOWN);
            Due.is("group", x.group(caption, 0), Due.UNKNOWN);
        }
        for (int visitor = 0; visitor < 12; visitor++) {
            Due.is("ballot", x.ballot(visitor, 0, false), Due.NONE);
        }
        for (int author = 0; author < 10; author++) {
            Due.is("captions", x.author(author, 0), 0);
            Due.is("gets", x.author(author, 1), 0);
            Due.is("place", x.author(author, 2), Due.NONE);
        }
        Due.is("ranked", x.ranked(0), Due.NONE);
        Due.is("round", x.round(0, 0), Due.NONE);
        Due.is("near", x.near(0, 0), Due.NONE);
        Due.is("undo", x.undo(), Due.NONE);
        Due.is("restore", x.restore(), Due.NONE);
        Due.is("clear", x.clearText(), 0);
        Contest y = Contest.of("a");
        Due.is("another object's captions", x.count(1), 0);
        Due.is("its own", y.count(1), 1);
    }

    private static void manyCalls() {
        Due.sentence(1, "Tallies of a caption contest: captions that are read from a text");
        Due.sentence(1, "An object is used for at most 512 calls after it has been made; what later calls answer is free.");
        Contest x = new Contest().text("abc");
        // clearText and type were four calls, so that the loop goes from the fifth one to the last but one
        for (int call = 5; call <= 511; call++) {
            int turn = call - 5;
            Due.is("call " + call, turn % 2 == 0 ? x.submit(0) : x.undo(), 0);
        }
        Due.is("the 512th call", x.count(1), 1);
        Contest y = new Contest();
        for (int call = 1; call <= 511; call++) {
            Due.is("call " + call, y.set(0, call % 2), 1 - call % 2);
        }
        Due.is("the 512th call", y.undo(), 3);
    }

    private static void fourStates() {
        Due.sentence(12, "A history of at most 4 states is kept; when one more is recorded, the oldest one is dropped; "
                + "undo() removes and restores the latest one.");
        Contest x = new Contest();
        for (int acts = 1; acts <= 4; acts++) {
            x.prize(1, acts);
            Due.is("states", x.count(11), acts);
        }
        for (int left = 3; left >= 0; left--) {
            Due.is("undo", x.undo(), left);
            Due.is("the prize", x.count(21), left == 0 ? 100 : left);
            Due.is("states", x.count(11), left);
        }
        Due.is("all four were there", x.undo(), Due.NONE);
        for (int acts = 1; acts <= 5; acts++) {
            x.prize(1, acts);
        }
        Due.is("four of five", x.count(11), 4);
        for (int left = 3; left >= 0; left--) {
            Due.is("undo", x.undo(), left);
            Due.is("the prize", x.count(21), left + 1);
        }
        Due.is("the oldest one was dropped", x.undo(), Due.NONE);
        Due.is("the prize", x.count(21), 1);
        for (int acts = 1; acts <= 11; acts++) {
            x.prize(2, acts);
        }
        for (int left = 3; left >= 0; left--) {
            Due.is("undo", x.undo(), left);
            Due.is("the prize", x.count(22), left + 7);
        }
        Due.is("the oldest ones were dropped", x.undo(), Due.NONE);
    }

    private static void undoneInOrder() {
        Due.sentence(12, "Removes and restores the latest state of the history.");
        Due.sentence(12, "Returns the number of states that are left; NONE if the history is empty.");
        Contest x = new Contest();
        for (int acts = 1; acts <= 6; acts++) {
            x.prize(1, acts);
        }
        Due.is("undo", x.undo(), 3);
        Due.is("undo", x.undo(), 2);
        Due.is("the prize", x.count(21), 4);
        x.prize(1, 40);
        x.prize(1, 50);
        Due.is("four again", x.count(11), 4);
        x.prize(1, 60);
        int[] prizes = {50, 40, 4, 3};
        for (int i = 0; i < 4; i++) {
            Due.is("undo", x.undo(), 3 - i);
            Due.is("the prize", x.count(21), prizes[i]);
        }
        Due.is("none is left", x.undo(), Due.NONE);
        Due.is("the prize", x.count(21), 3);
    }

    private static void undoneToNothing() {
        Due.sentence(12, "NONE if the history is empty");
        Contest x = new Contest().text("a");
        for (int i = 0; i < 3; i++) {
            x.submit(2);
            Due.is("undo", x.undo(), 0);
            Due.is("empty", x.undo(), Due.NONE);
            Due.is("no captions", x.count(1), 0);
            Due.is("no caption 0", x.caption(0, 0), Due.UNKNOWN);
        }
        x.text("bcd").submit(3);
        Due.is("another one in its place", x.caption(0, 0), 3);
        Due.is("its text", x.caption(0, 2), 3);
        Due.is("its letter", x.letter(0, 0), 'b');
    }

    /** A contest with something of all that a state has, three states in its history and a snapshot. */
    private static Contest full() {
        Contest x = Contest.of("Ab", "c d!", "aB", "abc", "q", "C.D");
        x.join(3, 4);
        x.vote(0, 0, 1, 3);
        x.vote(1, 1, 5, 4);
        x.vote(11, 2, Due.NONE, Due.NONE);
        x.score(0, 0, 7);
        x.score(1, 3, 0);
        x.score(2, 5, 10);
        x.set(1, 4);
        x.prize(5, 77);
        x.keep();
        x.set(2, 1);
        x.withdraw(4);
        x.vote(2, 3, 0, Due.NONE);
        x.score(1, 1, 4);
        x.undo();
        return x.text("a?");
    }

    /** All that is told of a contest, of its history and of its snapshot. */
    private static List<Integer> told(Contest x) {
        List<Integer> all = new ArrayList<>();
        tellState(x, all);
        tellCaptions(x, all);
        tellBallots(x, all);
        while (all.size() < 1000) {
            int left = x.undo();
            all.add(left);
            tellState(x, all);
            if (left == Due.NONE) {
                break;
            }
        }
        all.add(x.restore());
        tellState(x, all);
        return all;
    }

    private static void tellState(Contest x, List<Integer> all) {
        for (int what : new int[] {0, 1, 3, 4, 5, 6, 7, 8, 9, 11, 12, 21, 25}) {
            all.add(x.count(what));
        }
    }

    private static void tellCaptions(Contest x, List<Integer> all) {
        for (int caption = 0; caption < 7; caption++) {
            for (int what = 0; what <= 7; what++) {
                all.add(x.caption(caption, what));
                all.add(x.group(caption, what));
            }
            for (int place = 0; place < 5; place++) {
                all.add(x.letter(caption, place));
            }
            all.add(x.ranked(caption));
            all.add(x.round(caption, 0));
            all.add(x.distance(0, caption));
            all.add(x.near(caption, 1));
            all.add(x.author(caption, 1));
        }
        for (int place = 1; place <= 5; place++) {
            all.add(x.count(20 + place));
        }
    }

    private static void tellBallots(Contest x, List<Integer> all) {
        for (int visitor : new int[] {0, 1, 2, 3, 11}) {
            for (int wish = 0; wish < 3; wish++) {
                all.add(x.ballot(visitor, wish, false));
                all.add(x.ballot(visitor, wish, true));
            }
        }
        for (int caption = 0; caption < 6; caption++) {
            for (int judge = 0; judge < 3; judge++) {
                all.add(x.judged(judge, caption, 0));
                all.add(x.judged(judge, caption, 2));
            }
        }
    }

    private static void same(String what, List<Integer> got, List<Integer> want) {
        Due.is(what + ", how much is told", got.size(), want.size());
        for (int i = 0; i < Math.min(got.size(), want.size()); i++) {
            Due.is(what + ", answer " + i, got.get(i), want.get(i));
        }
    }

    private static final Call[] ACTS = {
        x -> x.submit(0), x -> x.withdraw(0), x -> x.withdraw(3), x -> x.join(0, 1), x -> x.join(5, 3), x -> x.part(3),
        x -> x.vote(0, 0, 1, Due.NONE), x -> x.vote(11, Due.NONE, Due.NONE, Due.NONE), x -> x.vote(5, 5, 3, 2),
        x -> x.score(0, 0, 8), x -> x.score(2, 2, 0), x -> x.set(0, 1), x -> x.set(1, 0), x -> x.set(2, 0),
        x -> x.prize(1, 0), x -> x.prize(5, 999), x -> x.restore()};

    private static void actsAreRecorded() {
        Due.sentence(12, "Each call of a method that is described as an act, and returns no error and not NONE, records "
                + "the state that was before it.");
        for (int act = 0; act < ACTS.length; act++) {
            Contest x = full();
            Due.is("states before the act " + act, x.count(11), 3);
            Due.is("an answer that is no error of the act " + act, Math.min(ACTS[act].on(x), 0), 0);
            Due.is("states behind the act " + act, x.count(11), 4);
            Due.is("the next act", Math.min(x.prize(4, 444), 0), 0);
            Due.is("states behind the next act", x.count(11), 4);
            Due.is("undo", x.undo(), 3);
            Due.is("undo", x.undo(), 2);
        }
    }

    private static void actsAreUndone() {
        Due.sentence(12, "A state is everything but the text, the history and the snapshot.");
        List<Integer> before = told(full());
        for (int act = 0; act < ACTS.length; act++) {
            Contest x = full();
            ACTS[act].on(x);
            Due.is("undo of the act " + act, x.undo(), 3);
            same("behind undo of the act " + act, told(x), before);
        }
    }

    private static void othersAreNotRecorded() {
        Due.sentence(12, "Each call of a method that is described as an act");
        Call[] others = {
            x -> x.type('b'), x -> x.clearText(), x -> x.keep(), x -> x.caption(0, 5), x -> x.letter(0, 0),
            x -> x.group(0, 6), x -> x.judged(0, 0, 2), x -> x.ballot(0, 0, true), x -> x.ranked(0),
            x -> x.round(0, 0), x -> x.distance(0, 1), x -> x.near(0, 0), x -> x.author(0, 1), x -> x.count(6)};
        for (int call = 0; call < others.length; call++) {
            Contest x = full();
            others[call].on(x);
            Due.is("states behind the call " + call, x.count(11), 3);
            Due.is("undo", x.undo(), 2);
            Due.is("the vote is undone", x.ballot(2, 0, false), Due.NONE);
            Contest y = new Contest();
            others[call].on(y);
            Due.is("no states behind the call " + call, y.count(11), 0);
            Due.is("nothing to undo", y.undo(), Due.NONE);
        }
    }

    private static void whatNoStateHas() {
        Due.sentence(12, "A state is everything but the text, the history and the snapshot.");
        Contest x = Contest.of("a", "b");
        x.prize(1, 7);
        x.keep();
        x.prize(1, 8);
        x.text("xyz");
        Due.is("undo", x.undo(), 3);
        Due.is("the text is not undone", x.count(12), 3);
        x.prize(1, 9);
        x.keep();
        x.undo();
        x.text("wxyz");
        Due.is("the snapshot is not undone", x.restore(), 2);
        Due.is("it has the latest prize", x.count(21), 9);
        Due.is("the text is not restored", x.count(12), 4);
        Due.is("the history is not restored", x.count(11), 4);
        Due.is("undo", x.undo(), 3);
        Due.is("the prize before", x.count(21), 7);
        Due.is("undo", x.undo(), 2);
        Due.is("the prize before", x.count(21), 100);
    }

    private static void kept() {
        Due.sentence(13, "Takes a snapshot of the state, in place of the one that was.");
        Due.sentence(13, "Returns how many captions are in the contest.");
        Contest x = new Contest();
        Due.is("none", x.keep(), 0);
        x.text("a");
        for (int captions = 1; captions <= 20; captions++) {
            x.submit(0);
            Due.is("captions", x.keep(), captions);
        }
        x.withdraw(7);
        Due.is("withdrawn ones are none", x.keep(), 19);
        x.withdraw(0);
        x.withdraw(1);
        Due.is("the latest snapshot", x.restore(), 19);
        Due.is("7 is withdrawn", x.caption(7, 0), Due.UNKNOWN);
        Due.is("0 is not", x.caption(0, 0), 0);
        Contest y = Contest.of("a");
        Due.is("states", y.count(11), 1);
        y.keep();
        y.keep();
        Due.is("not an act", y.count(11), 1);
        y.prize(3, 0);
        y.keep();
        y.prize(3, 1);
        y.restore();
        Due.is("not that of the first snapshot", y.count(23), 0);
    }

    private static void restored() {
        Due.sentence(14, "Restores the state of the snapshot, which stays. This is an act.");
        Due.sentence(14, "Returns how many captions are in the contest then; NONE if there is no snapshot.");
        List<Integer> kept = new ArrayList<>();
        Contest x = full();
        x.keep();
        tellCaptions(x, kept);
        tellBallots(x, kept);
        for (int act = 0; act < ACTS.length - 1; act++) {
            Contest y = full();
            y.keep();
            ACTS[act].on(y);
            Due.is("restore behind the act " + act, y.restore(), 5);
            List<Integer> then = new ArrayList<>();
            tellCaptions(y, then);
            tellBallots(y, then);
            same("restored behind the act " + act, then, kept);
            Due.is("an act", y.count(11), 4);
            Due.is("undo", y.undo(), 3);
            Due.is("undo of the act", y.undo(), 2);
        }
    }

    private static void restoredOnceMore() {
        Due.sentence(14, "which stays");
        Contest x = Contest.of("a", "b");
        x.keep();
        for (int i = 1; i <= 6; i++) {
            x.withdraw(0);
            x.prize(2, i);
            Due.is("restore", x.restore(), 2);
            Due.is("the prize", x.count(22), 50);
            Due.is("restore without a change", x.restore(), 2);
            Due.is("is an act all the same", x.count(11), 4);
            x.submit(0);
            x.join(0, 1);
        }
        Due.is("so far", x.count(1), 3);
        Due.is("restore", x.restore(), 2);
        Due.is("so far", x.count(1), 2);
        Due.is("links", x.count(3), 0);
        for (int left = 3; left >= 0; left--) {
            Due.is("undo", x.undo(), left);
        }
        Due.is("the snapshot stays", x.restore(), 2);
        Contest y = new Contest();
        Due.is("a snapshot of nothing", y.keep(), 0);
        y.text("a").submit(0);
        Due.is("is a snapshot", y.restore(), 0);
        Due.is("no captions so far", y.count(1), 0);
        Due.is("the next number", y.submit(5), 0);
    }

    /** Captions that were undone leave their numbers to others; what is restored has its own ones again. */
    private static void restoredInPlaceOfOthers() {
        Due.sentence(14, "Restores the state of the snapshot, which stays.");
        Contest x = Contest.of("a");
        x.submit(7, "A-b c");
        x.submit(8, "abC");
        x.keep();
        x.undo();
        x.undo();
        Due.is("another one in its place", x.submit(3, "x, y! z w"), 1);
        Due.is("another one in its place", x.submit(4, "WXYZV"), 2);
        Due.is("restore", x.restore(), 3);
        int[] kept = {7, 5, 3, '-', 1, 0, 2};
        tellOneAndTwo("of the snapshot", x, kept);
        Due.sentence(12, "undo() removes and restores the latest one.");
        Due.is("undo", x.undo(), 3);
        int[] then = {3, 9, 4, ',', 2, 2, 4};
        tellOneAndTwo("behind undo", x, then);
        Due.is("restore", x.restore(), 3);
        tellOneAndTwo("of the snapshot", x, kept);
    }

    private static void tellOneAndTwo(String what, Contest x, int[] wants) {
        Due.is(what + ", author of 1", x.caption(1, 0), wants[0]);
        Due.is(what + ", author of 2", x.caption(2, 0), wants[0] + 1);
        Due.is(what + ", characters of 1", x.caption(1, 2), wants[1]);
        Due.is(what + ", letters of 1", x.caption(1, 3), wants[2]);
        Due.is(what + ", letter of 1", x.letter(1, 1), wants[3]);
        Due.is(what + ", head of 2", x.caption(2, 1), wants[4]);
        Due.is(what + ", from 1 to 2", x.distance(1, 2), wants[5]);
        Due.is(what + ", from 0 to 1", x.distance(0, 1), wants[6]);
    }

    private static void noSnapshot() {
        Due.sentence(14, "There is one snapshot, empty at first.");
        Contest x = new Contest();
        Due.is("none", x.restore(), Due.NONE);
        x.text("a").submit(0);
        Due.is("none", x.restore(), Due.NONE);
        Due.is("one state", x.count(11), 1);
        x.undo();
        Due.is("none", x.restore(), Due.NONE);
        Due.is("no states", x.count(11), 0);
        x.keep();
        Due.is("one", x.restore(), 0);
        Due.is("one state", x.count(11), 1);
        x.undo();
        Due.is("undo leaves it", x.restore(), 0);
    }

    /** Calls of which each has the error that stands behind it, on the contest full(). */
    private static final Call[] UNKNOWN_CALLS = {
        x -> x.submit(10), x -> x.submit(-1), x -> x.withdraw(4), x -> x.withdraw(6), x -> x.withdraw(-1),
        x -> x.join(4, 0), x -> x.join(0, 4), x -> x.join(6, 6), x -> x.part(4), x -> x.part(6), x -> x.part(-1),
        x -> x.vote(12, 0, 1, 2), x -> x.vote(-1, 0, 1, 2), x -> x.vote(0, 4, 1, 2), x -> x.vote(0, 1, 6, 2),
        x -> x.vote(0, 1, 2, -1), x -> x.vote(1, 1, 5, 4), x -> x.score(3, 0, 1), x -> x.score(-1, 0, 1),
        x -> x.score(0, 4, 1), x -> x.score(0, 6, 1), x -> x.caption(4, 0), x -> x.letter(4, 0), x -> x.group(4, 0),
        x -> x.judged(3, 0, 0), x -> x.judged(0, 4, 0), x -> x.ballot(12, 0, true), x -> x.distance(0, 4),
        x -> x.distance(4, 0), x -> x.author(10, 0)};

    private static final Call[] BAD_CALLS = {
        x -> x.join(0, 0), x -> x.vote(0, Due.NONE, 1, 2), x -> x.vote(0, 1, Due.NONE, 2), x -> x.vote(0, 1, 1, 2),
        x -> x.vote(0, 1, 2, 1), x -> x.vote(0, 1, 2, 2), x -> x.score(0, 0, 11), x -> x.score(0, 0, -1),
        x -> x.set(-1, 0), x -> x.set(3, 0), x -> x.set(0, 2), x -> x.set(0, -1), x -> x.set(1, 6), x -> x.set(1, -1),
        x -> x.set(2, 2), x -> x.set(2, -1), x -> x.prize(0, 1), x -> x.prize(6, 1), x -> x.prize(1, -1),
        x -> x.prize(1, 1000), x -> x.caption(0, 7), x -> x.letter(0, -1), x -> x.group(0, 8), x -> x.judged(0, 0, 3),
        x -> x.ballot(0, 3, false), x -> x.ranked(-1), x -> x.round(-1, 0), x -> x.round(0, 3), x -> x.near(-1, 0),
        x -> x.near(0, 3), x -> x.author(0, 3), x -> x.count(13)};

    private static final Call[] NONE_CALLS = {
        x -> x.join(0, 2), x -> x.part(0), x -> x.vote(0, 0, 1, 3), x -> x.vote(3, Due.NONE, Due.NONE, Due.NONE),
        x -> x.score(0, 0, 7), x -> x.score(1, 3, 0), x -> x.set(0, 0), x -> x.set(1, 4), x -> x.set(2, 1),
        x -> x.prize(1, 100), x -> x.prize(5, 77), x -> x.letter(0, 2), x -> x.group(0, 7), x -> x.judged(1, 0, 0),
        x -> x.ballot(11, 1, false), x -> x.ranked(3), x -> x.round(2, 0), x -> x.near(99, 0), x -> x.author(9, 2)};

    private static void refusedCallsChangeNothing() {
        List<Integer> before = told(full());
        Due.sentence(12, "Where several errors can apply, the order of the @return line is the order of the checks.");
        Due.sentence(12, "A call that returns an error or NONE changes nothing.");
        Call[][] calls = {UNKNOWN_CALLS, BAD_CALLS, NONE_CALLS};
        int[] errors = {Due.UNKNOWN, Due.BAD_VALUE, Due.NONE};
        for (int kind = 0; kind < calls.length; kind++) {
            for (int call = 0; call < calls[kind].length; call++) {
                Contest x = full();
                String name = "error " + errors[kind] + ", call " + call;
                Due.is(name, calls[kind][call].on(x), errors[kind]);
                same(name, told(x), before);
            }
        }
        Due.sentence(2, "-100 minus the fault of the text if it has one (which is an error)");
        Contest x = full();
        x.type('1');
        Due.is("a fault", x.submit(0), -102);
        Due.is("is not recorded", x.count(11), 3);
        Due.is("no caption", x.count(1), 6);
        Due.is("the text stays", x.count(12), 3);
        Due.sentence(12, "NONE is no error; it is returned only if no error applies.");
        Contest y = new Contest();
        Due.is("nothing to undo", y.undo(), Due.NONE);
        Due.is("nothing to restore", y.restore(), Due.NONE);
        Due.is("nothing is recorded", y.count(11), 0);
    }

    private static void fullTextChangesNothing() {
        Due.sentence(10, "A call that returns an error or NONE changes nothing.");
        Contest x = new Contest().text("a".repeat(60));
        Due.is("full", x.type('b'), Due.FULL);
        Due.is("full", x.type('1'), Due.FULL);
        Due.is("length", x.count(12), 60);
        Due.is("submit", x.submit(0), 0);
        for (int place = 0; place < 60; place++) {
            Due.is("letter", x.letter(0, place), 'a');
        }
        Due.is("no more", x.letter(0, 60), Due.NONE);
    }

    private static void fullContestChangesNothing() {
        Due.sentence(2, "A call that returns an error or NONE changes nothing.");
        Contest x = Contest.ofGroups(20);
        Due.is("full", x.submit(7), Due.FULL);
        Due.is("states", x.count(11), 4);
        Due.is("so far", x.count(1), 20);
        Due.is("the last one's author", x.caption(19, 0), 9);
        Due.is("the first one's author", x.caption(0, 0), 0);
        Due.is("undo", x.undo(), 3);
        Due.is("so far", x.count(1), 19);
        Due.is("the text stays", x.count(12), 20);
    }
}
