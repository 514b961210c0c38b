import java.util.Arrays;

/** Tallies of a caption contest. README.md tells how to use it. */
public final class CaptionTallies {
    public static final int UNKNOWN = -1;
    public static final int BAD_VALUE = -2;
    public static final int FULL = -3;
    public static final int NOT_POSSIBLE = -4;
    public static final int NONE = -5;

    private static final int CAPTIONS = 20;
    private static final int AUTHORS = 10;
    private static final int LETTERS = 60;
    private static final int VISITORS = 12;
    private static final int WISHES = 3;
    private static final int JUDGES = 3;
    private static final int MOST_POINTS = 10;
    private static final int PLACES = 5;
    private static final int MOST_PRIZE = 999;
    private static final int STATES = 4;
    private static final int NEAR = 3;

    private static final int METHOD = 0;
    private static final int PRIZED_PLACES = 1;
    private static final int TIE_RULE = 2;
    private static final int SETTINGS = 3;

    private static final int NO_FAULT = -1;
    private static final int FAULT_BASE = -100;
    private static final int SCORE_BASE = 1000;

    private final Draft draft;
    private final State state;
    private final History history;
    private final State snapshot;
    private boolean hasSnapshot;

    private final Groups groups;
    private final Counts counts;
    private final Ranks ranks;
    private final Rounds rounds;
    private final Order order;
    private final Shares shares;
    private final Distances distances;

    public CaptionTallies() {
        draft = new Draft();
        state = new State();
        history = new History();
        snapshot = new State();
        hasSnapshot = false;
        groups = new Groups();
        counts = new Counts();
        ranks = new Ranks();
        rounds = new Rounds();
        order = new Order();
        shares = new Shares();
        distances = new Distances();
    }

    // ---- captions

    public int submit(int author) {
        if (!isIndex(author, AUTHORS)) {
            return UNKNOWN;
        }
        int fault = draft.firstFault();
        if (fault != NO_FAULT) {
            return FAULT_BASE - fault;
        }
        if (state.captionsSoFar() >= CAPTIONS) {
            return FULL;
        }
        history.record(state);
        return state.add(author, draft);
    }

    public int withdraw(int caption) {
        if (!state.isIn(caption)) {
            return UNKNOWN;
        }
        history.record(state);
        state.takeOut(caption);
        return state.captionsIn();
    }

    public int join(int one, int other) {
        if (!state.isIn(one) || !state.isIn(other)) {
            return UNKNOWN;
        }
        if (one == other) {
            return BAD_VALUE;
        }
        groups.find(state);
        if (groups.headOf(one) == groups.headOf(other)) {
            return NONE;
        }
        history.record(state);
        state.link(one, other);
        groups.find(state);
        return groups.headOf(one);
    }

    public int part(int caption) {
        if (!state.isIn(caption)) {
            return UNKNOWN;
        }
        if (!state.hasLinks(caption)) {
            return NONE;
        }
        history.record(state);
        state.cutLinks(caption);
        groups.find(state);
        return groups.headOf(caption);
    }

    // ---- ballots, judges

    public int vote(int visitor, int first, int second, int third) {
        if (!isIndex(visitor, VISITORS)) {
            return UNKNOWN;
        }
        if (!isWish(first) || !isWish(second) || !isWish(third)) {
            return UNKNOWN;
        }
        if (hasGap(first, second, third) || isTwice(first, second, third)) {
            return BAD_VALUE;
        }
        if (state.isFilledIn(visitor, first, second, third)) {
            return NONE;
        }
        history.record(state);
        state.fillIn(visitor, first, second, third);
        return state.wishesOf(visitor);
    }

    public int score(int judge, int caption, int points) {
        if (!isIndex(judge, JUDGES) || !state.isIn(caption)) {
            return UNKNOWN;
        }
        if (points < 0 || points > MOST_POINTS) {
            return BAD_VALUE;
        }
        if (state.pointsBy(judge, caption) == points) {
            return NONE;
        }
        history.record(state);
        state.givePoints(judge, caption, points);
        groups.find(state);
        ranks.fill(state, groups);
        return ranks.rankBy(judge, groups.headOf(caption));
    }

    // ---- settings, prizes

    public int set(int what, int value) {
        if (!isIndex(what, SETTINGS) || value < 0 || value > mostOf(what)) {
            return BAD_VALUE;
        }
        int previous = state.setting(what);
        if (previous == value) {
            return NONE;
        }
        history.record(state);
        state.changeSetting(what, value);
        return previous;
    }

    public int prize(int place, int amount) {
        if (place < 1 || place > PLACES || amount < 0 || amount > MOST_PRIZE) {
            return BAD_VALUE;
        }
        int previous = state.prizeOf(place);
        if (previous == amount) {
            return NONE;
        }
        history.record(state);
        state.changePrize(place, amount);
        return previous;
    }

    // ---- texts

    public int type(char character) {
        if (draft.length() >= LETTERS) {
            return FULL;
        }
        draft.append(character);
        return draft.length();
    }

    public int clearText() {
        int length = draft.length();
        draft.empty();
        return length;
    }

    // ---- history

    public int undo() {
        if (history.size() == 0) {
            return NONE;
        }
        history.takeBack(state);
        return history.size();
    }

    public int keep() {
        snapshot.copyFrom(state);
        hasSnapshot = true;
        return state.captionsIn();
    }

    public int restore() {
        if (!hasSnapshot) {
            return NONE;
        }
        history.record(state);
        state.copyFrom(snapshot);
        return state.captionsIn();
    }

    // ---- what is told

    public int caption(int caption, int what) {
        if (!state.isIn(caption)) {
            return UNKNOWN;
        }
        switch (what) {
            case 0:
                return state.authorOf(caption);
            case 1:
                groups.find(state);
                return groups.headOf(caption);
            case 2:
                return state.lengthOf(caption);
            case 3:
                return state.coreLengthOf(caption);
            case 4:
                return state.linksInContest(caption);
            case 5:
                tally();
                return shares.ofCaption(caption);
            case 6:
                return state.ballotsWith(caption);
            default:
                return BAD_VALUE;
        }
    }

    public int letter(int caption, int place) {
        if (!state.isIn(caption)) {
            return UNKNOWN;
        }
        if (place < 0) {
            return BAD_VALUE;
        }
        return state.textLetter(caption, place);
    }

    public int group(int caption, int what) {
        if (!state.isIn(caption)) {
            return UNKNOWN;
        }
        tally();
        int head = groups.headOf(caption);
        switch (what) {
            case 0:
                return groups.sizeOf(head);
            case 1:
                return counts.pointsOf(head);
            case 2:
                return counts.firstsOf(head);
            case 3:
                return ranks.sumOf(head);
            case 4:
                return SCORE_BASE + scoreOf(head);
            case 5:
                return order.placeOf(head);
            case 6:
                return shares.ofGroup(head);
            case 7:
                return rounds.roundOf(head);
            default:
                return BAD_VALUE;
        }
    }

    public int judged(int judge, int caption, int what) {
        if (!isIndex(judge, JUDGES) || !state.isIn(caption)) {
            return UNKNOWN;
        }
        groups.find(state);
        ranks.fill(state, groups);
        int head = groups.headOf(caption);
        switch (what) {
            case 0:
                return state.pointsBy(judge, caption);
            case 1:
                return ranks.pointsBy(judge, head);
            case 2:
                return ranks.rankBy(judge, head);
            default:
                return BAD_VALUE;
        }
    }

    public int ballot(int visitor, int wish, boolean counted) {
        if (!isIndex(visitor, VISITORS)) {
            return UNKNOWN;
        }
        if (!isIndex(wish, WISHES)) {
            return BAD_VALUE;
        }
        if (!counted) {
            return state.wish(visitor, wish);
        }
        groups.find(state);
        counts.fill(state, groups);
        return counts.wish(visitor, wish);
    }

    public int ranked(int rank) {
        if (rank < 0) {
            return BAD_VALUE;
        }
        tally();
        return order.headAt(rank);
    }

    public int round(int round, int what) {
        if (round < 0 || !isIndex(what, 3)) {
            return BAD_VALUE;
        }
        tally();
        if (round >= rounds.number()) {
            return NONE;
        }
        switch (what) {
            case 0:
                return rounds.headOut(round);
            case 1:
                return rounds.ballotsOfHeadOut(round);
            default:
                return rounds.ballotsForNone(round);
        }
    }

    public int distance(int one, int other) {
        if (!state.isIn(one) || !state.isIn(other)) {
            return UNKNOWN;
        }
        return distances.between(state, one, other);
    }

    public int near(int rank, int what) {
        if (rank < 0 || !isIndex(what, 3)) {
            return BAD_VALUE;
        }
        groups.find(state);
        distances.fill(state, groups);
        int pair = distances.pairAt(rank);
        if (pair == NONE) {
            return NONE;
        }
        switch (what) {
            case 0:
                return pair / CAPTIONS;
            case 1:
                return pair % CAPTIONS;
            default:
                return distances.ofPair(pair);
        }
    }

    public int author(int author, int what) {
        if (!isIndex(author, AUTHORS)) {
            return UNKNOWN;
        }
        switch (what) {
            case 0:
                return captionsBy(author);
            case 1:
                tally();
                return amountFor(author);
            case 2:
                tally();
                return bestPlaceOf(author);
            default:
                return BAD_VALUE;
        }
    }

    public int count(int what) {
        if (what >= 7 && what <= 9) {
            return state.setting(what - 7);
        }
        if (what >= 21 && what <= 25) {
            return state.prizeOf(what - 20);
        }
        tally();
        switch (what) {
            case 0:
                return state.captionsIn();
            case 1:
                return state.captionsSoFar();
            case 2:
                return groups.number();
            case 3:
                return state.linksInAll();
            case 4:
                return counts.ballotsThatCount();
            case 5:
                return counts.pointsInAll();
            case 6:
                return shares.inAll();
            case 10:
                return order.tiedGroups();
            case 11:
                return history.size();
            case 12:
                return draft.length();
            default:
                return BAD_VALUE;
        }
    }

    // ---- helpers of the calls

    private void tally() {
        groups.find(state);
        counts.fill(state, groups);
        ranks.fill(state, groups);
        rounds.play(state, groups, ranks);
        fillKeys();
        order.fill();
        shares.fill(state, groups, order);
    }

    private void fillKeys() {
        order.clearKeys();
        for (int head = 0; head < CAPTIONS; head++) {
            if (groups.isHead(head)) {
                order.giveKey(head, keyOf(head));
            }
        }
    }

    /** One number tells the order of the groups: a greater one is ahead, and equal ones tie. */
    private int keyOf(int head) {
        if (state.setting(METHOD) == 1) {
            int round = rounds.roundOf(head);
            return round == NONE ? CAPTIONS : round;
        }
        int key = scoreOf(head);
        if (state.setting(TIE_RULE) == 0) {
            return key;
        }
        int mostRanks = JUDGES * CAPTIONS;
        key = key * (VISITORS + 1) + counts.firstsOf(head);
        key = key * (mostRanks + 1) + mostRanks - ranks.sumOf(head);
        return key * CAPTIONS + CAPTIONS - 1 - head;
    }

    private int scoreOf(int head) {
        return 10 * counts.pointsOf(head) - ranks.sumOf(head);
    }

    private boolean isWish(int caption) {
        return caption == NONE || state.isIn(caption);
    }

    private static boolean hasGap(int first, int second, int third) {
        return first == NONE && (second != NONE || third != NONE)
                || second == NONE && third != NONE;
    }

    private static boolean isTwice(int first, int second, int third) {
        return first != NONE && (first == second || first == third)
                || second != NONE && second == third;
    }

    private static int mostOf(int setting) {
        return setting == PRIZED_PLACES ? PLACES : 1;
    }

    private boolean isBy(int author, int caption) {
        return state.isIn(caption) && state.authorOf(caption) == author;
    }

    private int captionsBy(int author) {
        int number = 0;
        for (int caption = 0; caption < CAPTIONS; caption++) {
            if (isBy(author, caption)) {
                number++;
            }
        }
        return number;
    }

    private int amountFor(int author) {
        int amount = 0;
        for (int caption = 0; caption < CAPTIONS; caption++) {
            if (isBy(author, caption)) {
                amount += shares.ofCaption(caption);
            }
        }
        return amount;
    }

    private int bestPlaceOf(int author) {
        int best = NONE;
        for (int caption = 0; caption < CAPTIONS; caption++) {
            if (isBy(author, caption)) {
                int place = order.placeOf(groups.headOf(caption));
                best = best == NONE ? place : Math.min(best, place);
            }
        }
        return best;
    }

    // ---- helpers of all classes

    private static boolean isIndex(int value, int size) {
        return value >= 0 && value < size;
    }

    private static int at(int[] row, int index) {
        return index >= 0 && index < row.length ? row[index] : NONE;
    }

    private static void put(int[] row, int index, int value) {
        if (index >= 0 && index < row.length) {
            row[index] = value;
        }
    }

    private static void copyRow(int[] from, int[] to) {
        System.arraycopy(from, 0, to, 0, Math.min(from.length, to.length));
    }

    private static void copyFlags(boolean[] from, boolean[] to) {
        System.arraycopy(from, 0, to, 0, Math.min(from.length, to.length));
    }

    private static boolean isSmall(int code) {
        return code >= 'a' && code <= 'z';
    }

    private static boolean isGreat(int code) {
        return code >= 'A' && code <= 'Z';
    }

    private static boolean isLetter(int code) {
        return isSmall(code) || isGreat(code);
    }

    private static boolean isSign(int code) {
        return code == ' ' || code == '.' || code == ',' || code == '!'
                || code == '?' || code == '\'' || code == '-';
    }

    private static int smallOf(int code) {
        return isGreat(code) ? code - 'A' + 'a' : code;
    }

    /** What the sharer with this index, from 0, gets of an amount; the first ones get the rest. */
    private static int portion(int amount, int sharers, int index) {
        if (sharers < 1) {
            return 0;
        }
        int rest = amount % sharers;
        return amount / sharers + (index < rest ? 1 : 0);
    }

    /** The text that is typed. */
    private static final class Draft {
        private final int[] codes;
        private int length;

        Draft() {
            codes = new int[LETTERS];
            length = 0;
        }

        int length() {
            return length;
        }

        int codeAt(int place) {
            return at(codes, place);
        }

        void append(char character) {
            if (length < LETTERS) {
                put(codes, length, character);
                length++;
            }
        }

        void empty() {
            length = 0;
        }

        int firstFault() {
            boolean hasLetter = false;
            for (int place = 0; place < length && place < LETTERS; place++) {
                int code = codeAt(place);
                if (isLetter(code)) {
                    hasLetter = true;
                } else if (!isSign(code)) {
                    return place;
                }
            }
            return hasLetter ? NO_FAULT : length;
        }
    }

    /** Everything that undo and the snapshot bring back. */
    private static final class State {
        private int made;
        private final boolean[] present;
        private final int[] authors;
        private final int[] texts;
        private final int[] lengths;
        private final int[] cores;
        private final int[] coreLengths;
        private final int[] firstAlike;
        private final boolean[] links;
        private final int[] wishes;
        private final int[] points;
        private final int[] settings;
        private final int[] prizes;

        State() {
            made = 0;
            present = new boolean[CAPTIONS];
            authors = new int[CAPTIONS];
            texts = new int[CAPTIONS * LETTERS];
            lengths = new int[CAPTIONS];
            cores = new int[CAPTIONS * LETTERS];
            coreLengths = new int[CAPTIONS];
            firstAlike = new int[CAPTIONS];
            links = new boolean[CAPTIONS * CAPTIONS];
            wishes = new int[VISITORS * WISHES];
            points = new int[JUDGES * CAPTIONS];
            settings = new int[] {0, 3, 0};
            prizes = new int[] {100, 50, 20, 10, 5};
            Arrays.fill(wishes, NONE);
            Arrays.fill(points, NONE);
        }

        void copyFrom(State other) {
            made = other.made;
            copyFlags(other.present, present);
            copyRow(other.authors, authors);
            copyRow(other.texts, texts);
            copyRow(other.lengths, lengths);
            copyRow(other.cores, cores);
            copyRow(other.coreLengths, coreLengths);
            copyRow(other.firstAlike, firstAlike);
            copyFlags(other.links, links);
            copyRow(other.wishes, wishes);
            copyRow(other.points, points);
            copyRow(other.settings, settings);
            copyRow(other.prizes, prizes);
        }

        int captionsSoFar() {
            return made;
        }

        boolean isIn(int caption) {
            return isIndex(caption, CAPTIONS) && present[caption];
        }

        int captionsIn() {
            int number = 0;
            for (int caption = 0; caption < CAPTIONS; caption++) {
                if (isIn(caption)) {
                    number++;
                }
            }
            return number;
        }

        int add(int author, Draft draft) {
            int caption = made;
            if (!isIndex(caption, CAPTIONS)) {
                return FULL;
            }
            present[caption] = true;
            authors[caption] = author;
            int length = Math.min(draft.length(), LETTERS);
            lengths[caption] = length;
            coreLengths[caption] = 0;
            for (int place = 0; place < length; place++) {
                addLetter(caption, place, draft.codeAt(place));
            }
            firstAlike[caption] = firstWithCoreOf(caption);
            made++;
            return caption;
        }

        private void addLetter(int caption, int place, int code) {
            put(texts, caption * LETTERS + place, code);
            if (isLetter(code)) {
                int length = coreLengthOf(caption);
                put(cores, caption * LETTERS + length, smallOf(code));
                put(coreLengths, caption, length + 1);
            }
        }

        /** A core never changes, so that this number tells, as soon as it is known, who is alike. */
        private int firstWithCoreOf(int caption) {
            for (int other = 0; other < caption && other < CAPTIONS; other++) {
                if (haveSameCore(other, caption)) {
                    return other;
                }
            }
            return caption;
        }

        private boolean haveSameCore(int one, int other) {
            if (coreLengthOf(one) != coreLengthOf(other)) {
                return false;
            }
            for (int place = 0; place < LETTERS && place < coreLengthOf(one); place++) {
                if (coreLetter(one, place) != coreLetter(other, place)) {
                    return false;
                }
            }
            return true;
        }

        boolean areAlike(int one, int other) {
            return at(firstAlike, one) == at(firstAlike, other);
        }

        void takeOut(int caption) {
            if (isIndex(caption, CAPTIONS)) {
                present[caption] = false;
            }
        }

        int authorOf(int caption) {
            return at(authors, caption);
        }

        int lengthOf(int caption) {
            return at(lengths, caption);
        }

        int coreLengthOf(int caption) {
            return at(coreLengths, caption);
        }

        int textLetter(int caption, int place) {
            return isIndex(place, lengthOf(caption)) ? at(texts, caption * LETTERS + place) : NONE;
        }

        int coreLetter(int caption, int place) {
            return isIndex(place, coreLengthOf(caption)) ? at(cores, caption * LETTERS + place) : NONE;
        }

        boolean areLinked(int one, int other) {
            return isIndex(one, CAPTIONS) && isIndex(other, CAPTIONS) && links[one * CAPTIONS + other];
        }

        void link(int one, int other) {
            putLink(one, other, true);
        }

        void cutLinks(int caption) {
            for (int other = 0; other < CAPTIONS; other++) {
                putLink(caption, other, false);
            }
        }

        /** A link stands in both directions, so that it is found from either caption. */
        private void putLink(int one, int other, boolean linked) {
            if (isIndex(one, CAPTIONS) && isIndex(other, CAPTIONS)) {
                links[one * CAPTIONS + other] = linked;
                links[other * CAPTIONS + one] = linked;
            }
        }

        boolean hasLinks(int caption) {
            for (int other = 0; other < CAPTIONS; other++) {
                if (areLinked(caption, other)) {
                    return true;
                }
            }
            return false;
        }

        int linksInContest(int caption) {
            int number = 0;
            for (int other = 0; other < CAPTIONS; other++) {
                if (isIn(other) && areLinked(caption, other)) {
                    number++;
                }
            }
            return number;
        }

        int linksInAll() {
            int number = 0;
            for (int one = 0; one < CAPTIONS; one++) {
                for (int other = one + 1; other < CAPTIONS; other++) {
                    if (areLinked(one, other)) {
                        number++;
                    }
                }
            }
            return number;
        }

        int wish(int visitor, int wish) {
            return at(wishes, visitor * WISHES + wish);
        }

        boolean isFilledIn(int visitor, int first, int second, int third) {
            return wish(visitor, 0) == first && wish(visitor, 1) == second && wish(visitor, 2) == third;
        }

        void fillIn(int visitor, int first, int second, int third) {
            put(wishes, visitor * WISHES, first);
            put(wishes, visitor * WISHES + 1, second);
            put(wishes, visitor * WISHES + 2, third);
        }

        int wishesOf(int visitor) {
            int number = 0;
            for (int wish = 0; wish < WISHES; wish++) {
                if (wish(visitor, wish) != NONE) {
                    number++;
                }
            }
            return number;
        }

        int ballotsWith(int caption) {
            int number = 0;
            for (int visitor = 0; visitor < VISITORS; visitor++) {
                if (wish(visitor, 0) == caption || wish(visitor, 1) == caption || wish(visitor, 2) == caption) {
                    number++;
                }
            }
            return number;
        }

        int pointsBy(int judge, int caption) {
            return at(points, judge * CAPTIONS + caption);
        }

        void givePoints(int judge, int caption, int given) {
            put(points, judge * CAPTIONS + caption, given);
        }

        int setting(int what) {
            return at(settings, what);
        }

        void changeSetting(int what, int value) {
            put(settings, what, value);
        }

        int prizeOf(int place) {
            return at(prizes, place - 1);
        }

        void changePrize(int place, int amount) {
            put(prizes, place - 1, amount);
        }

        /** What a place brings: a place beyond those that have prizes brings nothing. */
        int prizeGivenAt(int place) {
            return isIndex(place - 1, setting(PRIZED_PLACES)) ? prizeOf(place) : 0;
        }
    }

    /** The states that undo brings back, the oldest one first. */
    private static final class History {
        private final State[] states;
        private int size;

        History() {
            states = new State[STATES];
            for (int index = 0; index < STATES; index++) {
                states[index] = new State();
            }
            size = 0;
        }

        int size() {
            return size;
        }

        void record(State state) {
            if (size >= STATES) {
                dropOldest();
            }
            if (isIndex(size, STATES)) {
                states[size].copyFrom(state);
                size++;
            }
        }

        /** The room of the oldest state is used again, so that no call makes a new one. */
        private void dropOldest() {
            State oldest = states[0];
            for (int index = 1; index < STATES; index++) {
                states[index - 1] = states[index];
            }
            states[STATES - 1] = oldest;
            size = STATES - 1;
        }

        void takeBack(State state) {
            if (isIndex(size - 1, STATES)) {
                size--;
                state.copyFrom(states[size]);
            }
        }
    }

    /** The groups of the captions that are in the contest, each told by its head. */
    private static final class Groups {
        private final int[] heads;
        private final int[] reached;
        private int number;

        Groups() {
            heads = new int[CAPTIONS];
            reached = new int[CAPTIONS];
            number = 0;
        }

        void find(State state) {
            Arrays.fill(heads, NONE);
            number = 0;
            for (int caption = 0; caption < CAPTIONS; caption++) {
                if (state.isIn(caption) && heads[caption] == NONE) {
                    number++;
                    gather(state, caption);
                }
            }
        }

        private void gather(State state, int head) {
            put(heads, head, head);
            put(reached, 0, head);
            int size = 1;
            for (int next = 0; next < size && next < CAPTIONS; next++) {
                int from = reached[next];
                for (int to = 0; to < CAPTIONS; to++) {
                    if (heads[to] == NONE && state.isIn(to) && areTied(state, from, to)) {
                        heads[to] = head;
                        put(reached, size, to);
                        size++;
                    }
                }
            }
        }

        private static boolean areTied(State state, int one, int other) {
            return state.areLinked(one, other) || state.areAlike(one, other);
        }

        int number() {
            return number;
        }

        /** The head of a caption's group; NONE if the caption is not in the contest. */
        int headOf(int caption) {
            return at(heads, caption);
        }

        boolean isHead(int caption) {
            return isIndex(caption, CAPTIONS) && heads[caption] == caption;
        }

        int sizeOf(int head) {
            return membersBelow(head, CAPTIONS);
        }

        int membersBelow(int head, int bound) {
            int size = 0;
            for (int caption = 0; caption < CAPTIONS && caption < bound; caption++) {
                if (heads[caption] == head) {
                    size++;
                }
            }
            return size;
        }
    }

    /** The ballots as they are counted. */
    private static final class Counts {
        private final int[] wishes;
        private final int[] points;
        private final int[] firsts;

        Counts() {
            wishes = new int[VISITORS * WISHES];
            points = new int[CAPTIONS];
            firsts = new int[CAPTIONS];
        }

        void fill(State state, Groups groups) {
            Arrays.fill(wishes, NONE);
            Arrays.fill(points, 0);
            Arrays.fill(firsts, 0);
            for (int visitor = 0; visitor < VISITORS; visitor++) {
                fillBallot(state, groups, visitor);
            }
        }

        private void fillBallot(State state, Groups groups, int visitor) {
            int filled = 0;
            for (int wish = 0; wish < WISHES; wish++) {
                int caption = state.wish(visitor, wish);
                int head = groups.headOf(caption);
                if (head != NONE && !hasGroup(groups, visitor, head)) {
                    put(wishes, visitor * WISHES + filled, caption);
                    put(points, head, pointsOf(head) + WISHES - filled);
                    if (filled == 0) {
                        put(firsts, head, firstsOf(head) + 1);
                    }
                    filled++;
                }
            }
        }

        private boolean hasGroup(Groups groups, int visitor, int head) {
            for (int wish = 0; wish < WISHES; wish++) {
                if (groups.headOf(wish(visitor, wish)) == head) {
                    return true;
                }
            }
            return false;
        }

        int wish(int visitor, int wish) {
            return at(wishes, visitor * WISHES + wish);
        }

        int pointsOf(int head) {
            return at(points, head);
        }

        int firstsOf(int head) {
            return at(firsts, head);
        }

        int ballotsThatCount() {
            int number = 0;
            for (int visitor = 0; visitor < VISITORS; visitor++) {
                if (wish(visitor, 0) != NONE) {
                    number++;
                }
            }
            return number;
        }

        int pointsInAll() {
            int sum = 0;
            for (int head = 0; head < CAPTIONS; head++) {
                sum += points[head];
            }
            return sum;
        }
    }

    /** The judges' points for groups, and the ranks that follow from them. */
    private static final class Ranks {
        private final int[] points;
        private final int[] ranks;
        private final int[] sums;

        Ranks() {
            points = new int[JUDGES * CAPTIONS];
            ranks = new int[JUDGES * CAPTIONS];
            sums = new int[CAPTIONS];
        }

        void fill(State state, Groups groups) {
            Arrays.fill(points, 0);
            Arrays.fill(ranks, 0);
            Arrays.fill(sums, 0);
            for (int judge = 0; judge < JUDGES; judge++) {
                fillPoints(state, groups, judge);
                fillRanks(groups, judge);
            }
        }

        private void fillPoints(State state, Groups groups, int judge) {
            for (int caption = 0; caption < CAPTIONS; caption++) {
                int head = groups.headOf(caption);
                if (head != NONE) {
                    int most = Math.max(pointsBy(judge, head), state.pointsBy(judge, caption));
                    put(points, judge * CAPTIONS + head, most);
                }
            }
        }

        private void fillRanks(Groups groups, int judge) {
            for (int head = 0; head < CAPTIONS; head++) {
                if (groups.isHead(head)) {
                    int rank = 1 + groupsWithMore(groups, judge, pointsBy(judge, head));
                    put(ranks, judge * CAPTIONS + head, rank);
                    sums[head] += rank;
                }
            }
        }

        private int groupsWithMore(Groups groups, int judge, int than) {
            int number = 0;
            for (int head = 0; head < CAPTIONS; head++) {
                if (groups.isHead(head) && pointsBy(judge, head) > than) {
                    number++;
                }
            }
            return number;
        }

        int pointsBy(int judge, int head) {
            return at(points, judge * CAPTIONS + head);
        }

        int rankBy(int judge, int head) {
            return at(ranks, judge * CAPTIONS + head);
        }

        int sumOf(int head) {
            return at(sums, head);
        }
    }

    /** The rounds of the method 1. */
    private static final class Rounds {
        private final boolean[] left;
        private final int[] choices;
        private final int[] roundOut;
        private final int[] headsOut;
        private final int[] ballotsOut;
        private final int[] ballotsForNone;
        private int number;

        Rounds() {
            left = new boolean[CAPTIONS];
            choices = new int[VISITORS];
            roundOut = new int[CAPTIONS];
            headsOut = new int[CAPTIONS];
            ballotsOut = new int[CAPTIONS];
            ballotsForNone = new int[CAPTIONS];
            number = 0;
        }

        void play(State state, Groups groups, Ranks ranks) {
            beginWith(groups);
            number = Math.min(Math.max(groups.number() - 1, 0), CAPTIONS);
            for (int round = 0; round < number; round++) {
                choose(state, groups);
                int out = weakest(ranks);
                put(headsOut, round, out);
                put(ballotsOut, round, ballotsFor(out));
                put(ballotsForNone, round, ballotsFor(NONE));
                leaveOut(out, round);
            }
        }

        private void beginWith(Groups groups) {
            Arrays.fill(roundOut, NONE);
            for (int head = 0; head < CAPTIONS; head++) {
                left[head] = groups.isHead(head);
            }
        }

        private void leaveOut(int head, int round) {
            if (isIndex(head, CAPTIONS)) {
                left[head] = false;
                roundOut[head] = round;
            }
        }

        private void choose(State state, Groups groups) {
            for (int visitor = 0; visitor < VISITORS; visitor++) {
                choices[visitor] = firstLeft(state, groups, visitor);
            }
        }

        private int firstLeft(State state, Groups groups, int visitor) {
            for (int wish = 0; wish < WISHES; wish++) {
                int head = groups.headOf(state.wish(visitor, wish));
                if (isIndex(head, CAPTIONS) && left[head]) {
                    return head;
                }
            }
            return NONE;
        }

        private int weakest(Ranks ranks) {
            int weakest = NONE;
            for (int head = 0; head < CAPTIONS; head++) {
                if (left[head] && (weakest == NONE || isWeaker(ranks, head, weakest))) {
                    weakest = head;
                }
            }
            return weakest;
        }

        private boolean isWeaker(Ranks ranks, int head, int other) {
            if (ballotsFor(head) != ballotsFor(other)) {
                return ballotsFor(head) < ballotsFor(other);
            }
            if (ranks.sumOf(head) != ranks.sumOf(other)) {
                return ranks.sumOf(head) > ranks.sumOf(other);
            }
            return head > other;
        }

        private int ballotsFor(int head) {
            int ballots = 0;
            for (int visitor = 0; visitor < VISITORS; visitor++) {
                if (choices[visitor] == head) {
                    ballots++;
                }
            }
            return ballots;
        }

        int number() {
            return number;
        }

        /** The round in which a group is left out; NONE if it is not. */
        int roundOf(int head) {
            return at(roundOut, head);
        }

        int headOut(int round) {
            return at(headsOut, round);
        }

        int ballotsOfHeadOut(int round) {
            return at(ballotsOut, round);
        }

        int ballotsForNone(int round) {
            return at(ballotsForNone, round);
        }
    }

    /** The groups in their order, by keys of which a greater one is ahead and equal ones tie. */
    private static final class Order {
        private final boolean[] ordered;
        private final int[] keys;
        private final int[] places;
        private final int[] indexes;

        Order() {
            ordered = new boolean[CAPTIONS];
            keys = new int[CAPTIONS];
            places = new int[CAPTIONS];
            indexes = new int[CAPTIONS];
        }

        void clearKeys() {
            for (int head = 0; head < CAPTIONS; head++) {
                ordered[head] = false;
            }
        }

        void giveKey(int head, int key) {
            if (isIndex(head, CAPTIONS)) {
                ordered[head] = true;
                keys[head] = key;
            }
        }

        void fill() {
            Arrays.fill(places, NONE);
            Arrays.fill(indexes, NONE);
            for (int head = 0; head < CAPTIONS; head++) {
                if (ordered[head]) {
                    int ahead = groupsAhead(head);
                    places[head] = 1 + ahead;
                    indexes[head] = ahead + tiedBelow(head, head);
                }
            }
        }

        private int groupsAhead(int head) {
            int number = 0;
            for (int other = 0; other < CAPTIONS; other++) {
                if (ordered[other] && keys[other] > at(keys, head)) {
                    number++;
                }
            }
            return number;
        }

        /** The groups in the place of this one, itself too, whose heads are below a bound. */
        int tiedBelow(int head, int bound) {
            int number = 0;
            for (int other = 0; other < CAPTIONS && other < bound; other++) {
                if (ordered[other] && keys[other] == at(keys, head)) {
                    number++;
                }
            }
            return number;
        }

        int tiedWith(int head) {
            return tiedBelow(head, CAPTIONS);
        }

        int tiedGroups() {
            int number = 0;
            for (int head = 0; head < CAPTIONS; head++) {
                if (ordered[head] && tiedWith(head) > 1) {
                    number++;
                }
            }
            return number;
        }

        int placeOf(int head) {
            return at(places, head);
        }

        int headAt(int index) {
            for (int head = 0; head < CAPTIONS; head++) {
                if (indexes[head] == index) {
                    return head;
                }
            }
            return NONE;
        }
    }

    /** What groups and captions get. */
    private static final class Shares {
        private final int[] ofGroups;
        private final int[] ofCaptions;

        Shares() {
            ofGroups = new int[CAPTIONS];
            ofCaptions = new int[CAPTIONS];
        }

        void fill(State state, Groups groups, Order order) {
            Arrays.fill(ofGroups, 0);
            Arrays.fill(ofCaptions, 0);
            for (int head = 0; head < CAPTIONS; head++) {
                if (groups.isHead(head)) {
                    int together = prizesTogether(state, order.placeOf(head), order.tiedWith(head));
                    ofGroups[head] = portion(together, order.tiedWith(head), order.tiedBelow(head, head));
                }
            }
            for (int caption = 0; caption < CAPTIONS; caption++) {
                int head = groups.headOf(caption);
                if (head != NONE) {
                    int index = groups.membersBelow(head, caption);
                    ofCaptions[caption] = portion(ofGroup(head), groups.sizeOf(head), index);
                }
            }
        }

        private static int prizesTogether(State state, int place, int places) {
            int sum = 0;
            for (int next = 0; next < places && next < CAPTIONS; next++) {
                sum += state.prizeGivenAt(place + next);
            }
            return sum;
        }

        int ofGroup(int head) {
            return at(ofGroups, head);
        }

        int ofCaption(int caption) {
            return at(ofCaptions, caption);
        }

        int inAll() {
            int sum = 0;
            for (int caption = 0; caption < CAPTIONS; caption++) {
                sum += ofCaptions[caption];
            }
            return sum;
        }
    }

    /** How far captions are from one another. */
    private static final class Distances {
        private final int[] row;
        private final int[] near;

        Distances() {
            row = new int[LETTERS + 1];
            near = new int[CAPTIONS * CAPTIONS];
        }

        /** One row of the table of distances between the beginnings of both cores is enough. */
        int between(State state, int one, int other) {
            int height = Math.min(state.coreLengthOf(one), LETTERS);
            int width = Math.min(state.coreLengthOf(other), LETTERS);
            for (int column = 0; column <= width; column++) {
                row[column] = column;
            }
            for (int line = 1; line <= height; line++) {
                fillLine(state, one, other, line);
            }
            return at(row, width);
        }

        private void fillLine(State state, int one, int other, int line) {
            int width = Math.min(state.coreLengthOf(other), LETTERS);
            int letter = state.coreLetter(one, line - 1);
            int corner = row[0];
            row[0] = line;
            for (int column = 1; column <= width; column++) {
                int exchanged = letter == state.coreLetter(other, column - 1) ? corner : corner + 1;
                corner = row[column];
                int putInOrLeftOut = 1 + Math.min(row[column - 1], row[column]);
                row[column] = Math.min(exchanged, putInOrLeftOut);
            }
        }

        void fill(State state, Groups groups) {
            Arrays.fill(near, NONE);
            for (int one = 0; one < CAPTIONS; one++) {
                for (int other = one + 1; other < CAPTIONS; other++) {
                    if (areApart(groups, one, other) && mayBeNear(state, one, other)) {
                        near[one * CAPTIONS + other] = between(state, one, other);
                    }
                }
            }
        }

        private static boolean areApart(Groups groups, int one, int other) {
            int head = groups.headOf(one);
            int otherHead = groups.headOf(other);
            return head != NONE && otherHead != NONE && head != otherHead;
        }

        /** Cores whose lengths differ by more are never near; it spares most of the work. */
        private static boolean mayBeNear(State state, int one, int other) {
            return Math.abs(state.coreLengthOf(one) - state.coreLengthOf(other)) <= NEAR;
        }

        /** The pair with this rank, as a place in the table; NONE if there are not so many. */
        int pairAt(int rank) {
            int left = rank;
            for (int distance = 0; distance <= NEAR; distance++) {
                for (int pair = 0; pair < CAPTIONS * CAPTIONS; pair++) {
                    if (near[pair] == distance) {
                        if (left == 0) {
                            return pair;
                        }
                        left--;
                    }
                }
            }
            return NONE;
        }

        int ofPair(int pair) {
            return at(near, pair);
        }
    }
}
