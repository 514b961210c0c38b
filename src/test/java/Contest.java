/** A contest under test that counts its calls, as the document promises no answer behind the 512th. */
final class Contest {
    private static final int MOST_CALLS = 512;

    private final CaptionTallies tallies = new CaptionTallies();
    private int calls = 0;

    /** A contest of captions of which the first is by author 0, the second by author 1, and so on. */
    static Contest of(String... texts) {
        Contest x = new Contest();
        for (int i = 0; i < texts.length; i++) {
            Due.is("submit of " + texts[i], x.submit(i % 10, texts[i]), i);
        }
        return x;
    }

    /** A contest of as many captions, in as many groups: a, aa, aaa and so on. */
    static Contest ofGroups(int groups) {
        Contest x = new Contest();
        for (int i = 0; i < groups; i++) {
            x.type('a');
            Due.is("submit", x.submit(i % 10), i);
        }
        return x;
    }

    /** A contest of as many captions, all alike. */
    static Contest ofAlike(int captions) {
        Contest x = new Contest();
        x.type('a');
        for (int i = 0; i < captions; i++) {
            Due.is("submit", x.submit(i % 10), i);
        }
        return x;
    }

    Contest text(String text) {
        clearText();
        for (int i = 0; i < text.length(); i++) {
            type(text.charAt(i));
        }
        return this;
    }

    int submit(int author, String text) {
        return text(text).submit(author);
    }

    private CaptionTallies next() {
        calls++;
        if (calls == MOST_CALLS + 1) {
            Due.fault("the test itself makes more than 512 calls");
        }
        return tallies;
    }

    int submit(int author) {
        return next().submit(author);
    }

    int withdraw(int caption) {
        return next().withdraw(caption);
    }

    int join(int one, int other) {
        return next().join(one, other);
    }

    int part(int caption) {
        return next().part(caption);
    }

    int vote(int visitor, int first, int second, int third) {
        return next().vote(visitor, first, second, third);
    }

    int score(int judge, int caption, int points) {
        return next().score(judge, caption, points);
    }

    int set(int what, int value) {
        return next().set(what, value);
    }

    int prize(int place, int amount) {
        return next().prize(place, amount);
    }

    int type(char character) {
        return next().type(character);
    }

    int clearText() {
        return next().clearText();
    }

    int undo() {
        return next().undo();
    }

    int keep() {
        return next().keep();
    }

    int restore() {
        return next().restore();
    }

    int caption(int caption, int what) {
        return next().caption(caption, what);
    }

    int letter(int caption, int place) {
        return next().letter(caption, place);
    }

    int group(int caption, int what) {
        return next().group(caption, what);
    }

    int judged(int judge, int caption, int what) {
        return next().judged(judge, caption, what);
    }

    int ballot(int visitor, int wish, boolean counted) {
        return next().ballot(visitor, wish, counted);
    }

    int ranked(int rank) {
        return next().ranked(rank);
    }

    int round(int round, int what) {
        return next().round(round, what);
    }

    int distance(int one, int other) {
        return next().distance(one, other);
    }

    int near(int rank, int what) {
        return next().near(rank, what);
    }

    int author(int author, int what) {
        return next().author(author, what);
    }

    int count(int what) {
        return next().count(what);
    }
}
