import java.util.ArrayDeque;
import java.util.ArrayList;
import java.util.Collections;
import java.util.Comparator;
import java.util.Deque;
import java.util.HashSet;
import java.util.List;
import java.util.Locale;
import java.util.Set;
import java.util.TreeSet;

/**
 * The document once more, written straight from its words with the Java library and without regard to
 * speed or room: random runs are compared with it. It shares no code and no way of working with the class.
 */
final class Reference {
    private static final int UNKNOWN = -1;
    private static final int BAD_VALUE = -2;
    private static final int FULL = -3;
    private static final int NONE = -5;

    private record Caption(int author, String text, String core) {
        Caption(int author, String text) {
            this(author, text, text.replaceAll("[^a-zA-Z]", "").toLowerCase(Locale.ROOT));
        }
    }

    private static final class Contest {
        List<Caption> captions = new ArrayList<>();
        Set<Integer> withdrawn = new TreeSet<>();
        Set<Set<Integer>> links = new HashSet<>();
        List<List<Integer>> ballots = new ArrayList<>();
        Integer[][] points = new Integer[3][20];
        int[] settings = {0, 3, 0};
        int[] prizes = {100, 50, 20, 10, 5};

        Contest() {
            for (int visitor = 0; visitor < 12; visitor++) {
                ballots.add(List.of());
            }
        }

        Contest copy() {
            Contest other = new Contest();
            other.captions = new ArrayList<>(captions);
            other.withdrawn = new TreeSet<>(withdrawn);
            other.links = new HashSet<>(links);
            other.ballots = new ArrayList<>(ballots);
            for (int judge = 0; judge < 3; judge++) {
                other.points[judge] = points[judge].clone();
            }
            other.settings = settings.clone();
            other.prizes = prizes.clone();
            return other;
        }
    }

    private record Round(TreeSet<Integer> out, int ballots, int forNone) {
    }

    private Contest now = new Contest();
    private Contest snapshot = null;
    private final Deque<Contest> history = new ArrayDeque<>();
    private final StringBuilder text = new StringBuilder();
    private List<TreeSet<Integer>> found = null;

    private void record() {
        found = null;
        history.addLast(now.copy());
        if (history.size() > 4) {
            history.removeFirst();
        }
    }

    // ---- captions and groups

    private boolean known(int caption) {
        return caption >= 0 && caption < now.captions.size() && !now.withdrawn.contains(caption);
    }

    private List<Integer> contestants() {
        List<Integer> all = new ArrayList<>();
        for (int caption = 0; caption < now.captions.size(); caption++) {
            if (known(caption)) {
                all.add(caption);
            }
        }
        return all;
    }

    private boolean next(int one, int other) {
        return now.captions.get(one).core.equals(now.captions.get(other).core)
                || now.links.contains(Set.of(one, other));
    }

    private List<TreeSet<Integer>> groups() {
        if (found == null) {
            found = findGroups();
        }
        return new ArrayList<>(found);
    }

    private List<TreeSet<Integer>> findGroups() {
        List<TreeSet<Integer>> groups = new ArrayList<>();
        for (int caption : contestants()) {
            TreeSet<Integer> group = new TreeSet<>(Set.of(caption));
            for (TreeSet<Integer> earlier : List.copyOf(groups)) {
                if (earlier.stream().anyMatch(other -> next(caption, other))) {
                    group.addAll(earlier);
                    groups.remove(earlier);
                }
            }
            groups.add(group);
        }
        groups.sort(Comparator.comparing(TreeSet::first));
        return groups;
    }

    private TreeSet<Integer> groupOf(int caption) {
        return groups().stream().filter(group -> group.contains(caption)).findFirst().orElseThrow();
    }

    private int head(int caption) {
        return groupOf(caption).first();
    }

    int submit(int author) {
        if (author < 0 || author > 9) {
            return UNKNOWN;
        }
        for (int i = 0; i < text.length(); i++) {
            char c = text.charAt(i);
            if ("abcdefghijklmnopqrstuvwxyzABCDEFGHIJKLMNOPQRSTUVWXYZ .,!?'-".indexOf(c) < 0) {
                return -100 - i;
            }
        }
        if (text.toString().matches("[ .,!?'-]*")) {
            return -100 - text.length();
        }
        if (now.captions.size() == 20) {
            return FULL;
        }
        record();
        now.captions.add(new Caption(author, text.toString()));
        return now.captions.size() - 1;
    }

    int withdraw(int caption) {
        if (!known(caption)) {
            return UNKNOWN;
        }
        record();
        now.withdrawn.add(caption);
        return contestants().size();
    }

    int join(int one, int other) {
        if (!known(one) || !known(other)) {
            return UNKNOWN;
        }
        if (one == other) {
            return BAD_VALUE;
        }
        if (groupOf(one).contains(other)) {
            return NONE;
        }
        record();
        now.links.add(Set.of(one, other));
        return head(other);
    }

    int part(int caption) {
        if (!known(caption)) {
            return UNKNOWN;
        }
        if (now.links.stream().noneMatch(link -> link.contains(caption))) {
            return NONE;
        }
        record();
        now.links.removeIf(link -> link.contains(caption));
        return head(caption);
    }

    // ---- ballots, judges

    int vote(int visitor, int first, int second, int third) {
        if (visitor < 0 || visitor > 11) {
            return UNKNOWN;
        }
        List<Integer> told = List.of(first, second, third);
        List<Integer> wishes = new ArrayList<>(told);
        wishes.removeIf(wish -> wish == NONE);
        if (!wishes.stream().allMatch(this::known)) {
            return UNKNOWN;
        }
        if (!told.subList(0, wishes.size()).equals(wishes) || new HashSet<>(wishes).size() < wishes.size()) {
            return BAD_VALUE;
        }
        if (now.ballots.get(visitor).equals(wishes)) {
            return NONE;
        }
        record();
        now.ballots.set(visitor, wishes);
        return wishes.size();
    }

    private List<Integer> counted(int visitor) {
        List<Integer> counted = new ArrayList<>();
        Set<Integer> heads = new HashSet<>();
        for (int wish : now.ballots.get(visitor)) {
            if (known(wish) && heads.add(head(wish))) {
                counted.add(wish);
            }
        }
        return counted;
    }

    private int ballotPoints(Set<Integer> group) {
        int sum = 0;
        for (int visitor = 0; visitor < 12; visitor++) {
            List<Integer> counted = counted(visitor);
            for (int wish : counted) {
                sum += group.contains(wish) ? 3 - counted.indexOf(wish) : 0;
            }
        }
        return sum;
    }

    private int firstWishes(Set<Integer> group) {
        int sum = 0;
        for (int visitor = 0; visitor < 12; visitor++) {
            List<Integer> counted = counted(visitor);
            sum += !counted.isEmpty() && group.contains(counted.get(0)) ? 1 : 0;
        }
        return sum;
    }

    int score(int judge, int caption, int points) {
        if (judge < 0 || judge > 2 || !known(caption)) {
            return UNKNOWN;
        }
        if (points < 0 || points > 10) {
            return BAD_VALUE;
        }
        if (now.points[judge][caption] != null && now.points[judge][caption] == points) {
            return NONE;
        }
        record();
        now.points[judge][caption] = points;
        return rank(judge, groupOf(caption));
    }

    private int points(int judge, Set<Integer> group) {
        return group.stream().mapToInt(c -> now.points[judge][c] == null ? 0 : now.points[judge][c]).max().orElse(0);
    }

    private int rank(int judge, Set<Integer> group) {
        return 1 + (int) groups().stream().filter(other -> points(judge, other) > points(judge, group)).count();
    }

    private int ranks(Set<Integer> group) {
        return rank(0, group) + rank(1, group) + rank(2, group);
    }

    // ---- settings, prizes

    int set(int what, int value) {
        if (what < 0 || what > 2 || value < 0 || value > (what == 1 ? 5 : 1)) {
            return BAD_VALUE;
        }
        int previous = now.settings[what];
        if (previous == value) {
            return NONE;
        }
        record();
        now.settings[what] = value;
        return previous;
    }

    int prize(int place, int amount) {
        if (place < 1 || place > 5 || amount < 0 || amount > 999) {
            return BAD_VALUE;
        }
        int previous = now.prizes[place - 1];
        if (previous == amount) {
            return NONE;
        }
        record();
        now.prizes[place - 1] = amount;
        return previous;
    }

    // ---- texts, history

    int type(char character) {
        if (text.length() == 60) {
            return FULL;
        }
        text.append(character);
        return text.length();
    }

    int clearText() {
        int length = text.length();
        text.setLength(0);
        return length;
    }

    int undo() {
        if (history.isEmpty()) {
            return NONE;
        }
        now = history.removeLast();
        found = null;
        return history.size();
    }

    int keep() {
        snapshot = now.copy();
        return contestants().size();
    }

    int restore() {
        if (snapshot == null) {
            return NONE;
        }
        record();
        now = snapshot.copy();
        return contestants().size();
    }

    // ---- order, rounds, prizes

    private int methodScore(Set<Integer> group) {
        return 10 * ballotPoints(group) - ranks(group);
    }

    private List<Round> rounds() {
        List<Round> rounds = new ArrayList<>();
        List<TreeSet<Integer>> left = groups();
        while (left.size() >= 2) {
            int[] ballots = new int[20];
            int forNone = 0;
            for (int visitor = 0; visitor < 12; visitor++) {
                TreeSet<Integer> liked = null;
                for (int wish : now.ballots.get(visitor)) {
                    for (TreeSet<Integer> group : left) {
                        if (liked == null && group.contains(wish)) {
                            liked = group;
                        }
                    }
                }
                if (liked == null) {
                    forNone++;
                } else {
                    ballots[liked.first()]++;
                }
            }
            Comparator<TreeSet<Integer>> byBallots = Comparator.comparing(group -> ballots[group.first()]);
            Comparator<TreeSet<Integer>> byRanks = Comparator.comparing(group -> -ranks(group));
            Comparator<TreeSet<Integer>> byHead = Comparator.comparing(group -> -group.first());
            TreeSet<Integer> out = Collections.min(left, byBallots.thenComparing(byRanks).thenComparing(byHead));
            rounds.add(new Round(out, ballots[out.first()], forNone));
            left.remove(out);
        }
        return rounds;
    }

    private int roundOut(Set<Integer> group) {
        List<Round> rounds = rounds();
        for (int i = 0; i < rounds.size(); i++) {
            if (rounds.get(i).out.equals(group)) {
                return i;
            }
        }
        return NONE;
    }

    /** Lists of groups that share a place, the best place first. */
    private List<List<TreeSet<Integer>>> standings() {
        List<List<TreeSet<Integer>>> standings = new ArrayList<>();
        if (now.settings[0] == 1) {
            List<TreeSet<Integer>> winners = groups();
            for (Round round : rounds()) {
                standings.add(0, List.of(round.out));
                winners.remove(round.out);
            }
            if (!winners.isEmpty()) {
                standings.add(0, winners);
            }
            return standings;
        }
        Comparator<TreeSet<Integer>> order = Comparator.comparing(group -> -methodScore(group));
        if (now.settings[2] == 1) {
            order = order.thenComparing(group -> -firstWishes(group))
                    .thenComparing(this::ranks)
                    .thenComparing(TreeSet::first);
        }
        List<TreeSet<Integer>> groups = groups();
        groups.sort(order);
        for (TreeSet<Integer> group : groups) {
            List<TreeSet<Integer>> last = standings.isEmpty() ? null : standings.get(standings.size() - 1);
            if (last == null || order.compare(last.get(0), group) != 0) {
                last = new ArrayList<>();
                standings.add(last);
            }
            last.add(group);
        }
        return standings;
    }

    private int place(Set<Integer> group) {
        int place = 1;
        for (List<TreeSet<Integer>> tied : standings()) {
            if (tied.contains(group)) {
                return place;
            }
            place += tied.size();
        }
        throw new IllegalStateException();
    }

    private static List<Integer> shared(int amount, int sharers) {
        List<Integer> shares = new ArrayList<>(Collections.nCopies(sharers, 0));
        for (int i = 0; i < sharers; i++) {
            shares.set(i, amount / sharers);
        }
        for (int i = 0; i < amount - sharers * (amount / sharers); i++) {
            shares.set(i, shares.get(i) + 1);
        }
        return shares;
    }

    private int groupGets(Set<Integer> group) {
        int place = 1;
        for (List<TreeSet<Integer>> tied : standings()) {
            int together = 0;
            for (int i = 0; i < tied.size(); i++, place++) {
                together += place <= now.settings[1] ? now.prizes[place - 1] : 0;
            }
            if (tied.contains(group)) {
                return shared(together, tied.size()).get(tied.indexOf(group));
            }
        }
        throw new IllegalStateException();
    }

    private int captionGets(int caption) {
        TreeSet<Integer> group = groupOf(caption);
        return shared(groupGets(group), group.size()).get(group.headSet(caption).size());
    }

    // ---- what is told

    int caption(int caption, int what) {
        if (!known(caption)) {
            return UNKNOWN;
        }
        Caption told = now.captions.get(caption);
        return switch (what) {
            case 0 -> told.author;
            case 1 -> head(caption);
            case 2 -> told.text.length();
            case 3 -> told.core.length();
            case 4 -> (int) contestants().stream()
                    .filter(other -> other != caption && now.links.contains(Set.of(caption, other))).count();
            case 5 -> captionGets(caption);
            case 6 -> (int) now.ballots.stream().filter(ballot -> ballot.contains(caption)).count();
            default -> BAD_VALUE;
        };
    }

    int letter(int caption, int place) {
        if (!known(caption)) {
            return UNKNOWN;
        }
        if (place < 0) {
            return BAD_VALUE;
        }
        String told = now.captions.get(caption).text;
        return place < told.length() ? told.charAt(place) : NONE;
    }

    int group(int caption, int what) {
        if (!known(caption)) {
            return UNKNOWN;
        }
        TreeSet<Integer> group = groupOf(caption);
        return switch (what) {
            case 0 -> group.size();
            case 1 -> ballotPoints(group);
            case 2 -> firstWishes(group);
            case 3 -> ranks(group);
            case 4 -> methodScore(group) + 1000;
            case 5 -> place(group);
            case 6 -> groupGets(group);
            case 7 -> roundOut(group);
            default -> BAD_VALUE;
        };
    }

    int judged(int judge, int caption, int what) {
        if (judge < 0 || judge > 2 || !known(caption)) {
            return UNKNOWN;
        }
        return switch (what) {
            case 0 -> now.points[judge][caption] == null ? NONE : now.points[judge][caption];
            case 1 -> points(judge, groupOf(caption));
            case 2 -> rank(judge, groupOf(caption));
            default -> BAD_VALUE;
        };
    }

    int ballot(int visitor, int wish, boolean counted) {
        if (visitor < 0 || visitor > 11) {
            return UNKNOWN;
        }
        if (wish < 0 || wish > 2) {
            return BAD_VALUE;
        }
        List<Integer> wishes = counted ? counted(visitor) : now.ballots.get(visitor);
        return wish < wishes.size() ? wishes.get(wish) : NONE;
    }

    int ranked(int rank) {
        if (rank < 0) {
            return BAD_VALUE;
        }
        List<TreeSet<Integer>> all = new ArrayList<>();
        standings().forEach(all::addAll);
        return rank < all.size() ? all.get(rank).first() : NONE;
    }

    int round(int round, int what) {
        if (round < 0 || what < 0 || what > 2) {
            return BAD_VALUE;
        }
        List<Round> rounds = rounds();
        if (round >= rounds.size()) {
            return NONE;
        }
        Round told = rounds.get(round);
        return what == 0 ? told.out.first() : what == 1 ? told.ballots : told.forNone;
    }

    int distance(int one, int other) {
        if (!known(one) || !known(other)) {
            return UNKNOWN;
        }
        return apart(now.captions.get(one).core, now.captions.get(other).core);
    }

    private static int apart(String one, String other) {
        int[][] table = new int[one.length() + 1][other.length() + 1];
        for (int i = 0; i <= one.length(); i++) {
            for (int j = 0; j <= other.length(); j++) {
                if (i == 0 || j == 0) {
                    table[i][j] = i + j;
                } else if (one.charAt(i - 1) == other.charAt(j - 1)) {
                    table[i][j] = table[i - 1][j - 1];
                } else {
                    table[i][j] = 1 + Math.min(table[i - 1][j - 1], Math.min(table[i - 1][j], table[i][j - 1]));
                }
            }
        }
        return table[one.length()][other.length()];
    }

    int near(int rank, int what) {
        if (rank < 0 || what < 0 || what > 2) {
            return BAD_VALUE;
        }
        List<int[]> pairs = new ArrayList<>();
        for (int one : contestants()) {
            for (int other : contestants()) {
                if (one < other && head(one) != head(other) && distance(one, other) <= 3) {
                    pairs.add(new int[] {one, other, distance(one, other)});
                }
            }
        }
        pairs.sort(Comparator.comparing((int[] pair) -> pair[2]).thenComparing(pair -> pair[0])
                .thenComparing(pair -> pair[1]));
        return rank < pairs.size() ? pairs.get(rank)[what] : NONE;
    }

    int author(int author, int what) {
        if (author < 0 || author > 9) {
            return UNKNOWN;
        }
        List<Integer> own = new ArrayList<>(contestants());
        own.removeIf(caption -> now.captions.get(caption).author != author);
        return switch (what) {
            case 0 -> own.size();
            case 1 -> own.stream().mapToInt(this::captionGets).sum();
            case 2 -> own.stream().mapToInt(caption -> place(groupOf(caption))).min().orElse(NONE);
            default -> BAD_VALUE;
        };
    }

    int count(int what) {
        if (what >= 21 && what <= 25) {
            return now.prizes[what - 21];
        }
        return switch (what) {
            case 0 -> contestants().size();
            case 1 -> now.captions.size();
            case 2 -> groups().size();
            case 3 -> now.links.size();
            case 4 -> (int) now.ballots.stream().filter(b -> b.stream().anyMatch(this::known)).count();
            case 5 -> groups().stream().mapToInt(this::ballotPoints).sum();
            case 6 -> contestants().stream().mapToInt(this::captionGets).sum();
            case 7 -> now.settings[0];
            case 8 -> now.settings[1];
            case 9 -> now.settings[2];
            case 10 -> standings().stream().mapToInt(tied -> tied.size() > 1 ? tied.size() : 0).sum();
            case 11 -> history.size();
            case 12 -> text.length();
            default -> BAD_VALUE;
        };
    }
}
