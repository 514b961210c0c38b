import java.util.ArrayList;
import java.util.List;
import java.util.Random;

/** Random runs of calls, the same ones at every time, of which the class and the reference must answer each alike. */
public final class ReferenceTest {
    private static final int RUNS = 2500;
    private static final int CALLS = 512;
    private static final int FAULTS_TOLD = 5;
    private static final int NONE = -5;

    private static final String[] NAMES = {
        "submit", "withdraw", "join", "part", "vote", "score", "set", "prize", "type", "clearText", "undo", "keep",
        "restore", "caption", "letter", "group", "judged", "ballot", "ranked", "round", "distance", "near", "author",
        "count"};

    private final Random random;
    private final CaptionTallies tallies = new CaptionTallies();
    private final Reference reference = new Reference();
    private final List<String> trace = new ArrayList<>();
    private final int[] weights;
    private final String alphabet;
    private final int mostTyped;
    private final boolean wild;
    private int[] typing = {};
    private int typed = 0;
    private int crowd;

    private ReferenceTest(int run) {
        random = new Random(run);
        weights = weightsOf(run);
        String[] alphabets = {"ab", "aAbB '-", "abcdefghijklmnopqrstuvwxyzABCDEFGHIJKLMNOPQRSTUVWXYZ .,!?'-", "abAB .,!?1", "xyz"};
        alphabet = alphabets[random.nextInt(alphabets.length)];
        mostTyped = new int[] {1, 2, 3, 5, 9, 30, 60}[random.nextInt(7)];
        wild = random.nextInt(6) == 0;
        crowd = random.nextInt(3) == 0 ? 3 * (4 + random.nextInt(17)) : 0;
    }

    /** Each run prefers other calls, so that some reach many captions, some many ballots, some long histories. */
    private int[] weightsOf(int run) {
        int[] all = new int[NAMES.length];
        for (int i = 0; i < all.length; i++) {
            all[i] = 1 + random.nextInt(6);
        }
        all[0] = 4 + random.nextInt(12);
        all[1] = random.nextInt(3);
        all[2] = random.nextInt(8);
        all[3] = random.nextInt(4);
        all[4] = random.nextInt(20);
        all[5] = random.nextInt(20);
        all[10] = random.nextInt(5);
        all[12] = random.nextInt(3);
        all[9] = 8;
        return all;
    }

    public static void main(String[] args) {
        int runs = args.length > 0 ? Integer.parseInt(args[0]) : RUNS;
        int faults = 0;
        long calls = 0;
        for (int run = 0; run < runs && faults < FAULTS_TOLD; run++) {
            ReferenceTest test = new ReferenceTest(run);
            boolean right = true;
            for (int call = 0; call < CALLS && right; call++) {
                right = test.step();
                calls++;
            }
            if (!right) {
                faults++;
                System.out.println("run " + run + ": " + String.join("; ", test.trace));
            }
        }
        System.out.println(runs + " random runs, " + calls + " calls, " + faults + " runs with a fault");
        if (faults > 0) {
            System.exit(1);
        }
    }

    /** A crowd comes first in some runs: captions of one letter each, so that there are many groups. */
    private boolean step() {
        if (crowd > 0) {
            crowd--;
            int letter = 'a' + (random.nextInt(12) == 0 ? random.nextInt(26) : crowd / 3);
            int[] arguments = {crowd % 3 == 1 ? letter : random.nextInt(10)};
            return step(new int[] {0, 8, 9}[crowd % 3], crowd % 3 == 2 ? new int[] {} : arguments);
        }
        int what = typed < typing.length ? 8 : pick();
        return step(what, argumentsOf(what));
    }

    private boolean step(int what, int[] a) {
        long got = call(what, a);
        long due = refer(what, a);
        StringBuilder told = new StringBuilder(NAMES[what]).append('(');
        for (int i = 0; i < a.length; i++) {
            told.append(i == 0 ? "" : ", ").append(a[i]);
        }
        trace.add(told.append(") = ").append(got).append(got == due ? "" : ", due is " + due).toString());
        if (what == 9 && crowd == 0 && random.nextInt(5) > 0) {
            startTyping();
        }
        return got == due;
    }

    private void startTyping() {
        typing = new int[1 + random.nextInt(mostTyped)];
        typed = 0;
        for (int i = 0; i < typing.length; i++) {
            typing[i] = alphabet.charAt(random.nextInt(alphabet.length()));
        }
        if (random.nextInt(12) == 0) {
            typing[random.nextInt(typing.length)] = random.nextInt(65536);
        }
    }

    private int pick() {
        int sum = 0;
        for (int weight : weights) {
            sum += weight;
        }
        int left = random.nextInt(sum);
        int what = 0;
        while (left >= weights[what]) {
            left -= weights[what];
            what++;
        }
        return what;
    }

    private int number(int bound) {
        if (wild && random.nextInt(8) == 0) {
            int[] odd = {-1, -5, bound, bound + 1, Integer.MIN_VALUE, Integer.MAX_VALUE, -2, random.nextInt()};
            return odd[random.nextInt(odd.length)];
        }
        return random.nextInt(40) == 0 ? random.nextInt(bound + 2) - 1 : random.nextInt(bound);
    }

    private int captionNumber() {
        return number(Math.min(20, Math.max(1, reference.count(1))));
    }

    private int wish() {
        return random.nextInt(3) == 0 ? NONE : captionNumber();
    }

    private int[] wishes() {
        int[] wishes = {number(12), wish(), wish(), wish()};
        if (random.nextInt(3) > 0) {
            for (int i = 1; i < 3; i++) {
                wishes[i + 1] = wishes[i] == NONE ? NONE : wishes[i + 1];
            }
        }
        return wishes;
    }

    private int[] argumentsOf(int what) {
        switch (what) {
            case 0: return new int[] {number(10)};
            case 1: case 3: return new int[] {captionNumber()};
            case 2: case 20: return new int[] {captionNumber(), captionNumber()};
            case 4: return wishes();
            case 5: return new int[] {number(3), captionNumber(), number(11)};
            case 6: int setting = number(3); return new int[] {setting, number(setting == 1 ? 6 : 2)};
            case 7: return new int[] {1 + number(5), number(4) == 0 ? number(1000) : number(30)};
            case 8: return new int[] {typed < typing.length ? typing[typed++] : 'a' + random.nextInt(3)};
            case 13: return new int[] {captionNumber(), number(7)};
            case 14: return new int[] {captionNumber(), number(mostTyped)};
            case 15: return new int[] {captionNumber(), number(8)};
            case 16: return new int[] {number(3), captionNumber(), number(3)};
            case 17: return new int[] {number(12), number(3), random.nextInt(2)};
            case 18: return new int[] {captionNumber()};
            case 19: return new int[] {captionNumber(), number(3)};
            case 21: return new int[] {number(20), number(3)};
            case 22: return new int[] {number(10), number(3)};
            case 23: return new int[] {number(3) == 0 ? number(26) : number(11)};
            default: return new int[] {};
        }
    }

    private int call(int what, int[] a) {
        CaptionTallies x = tallies;
        switch (what) {
            case 0: return x.submit(a[0]);
            case 1: return x.withdraw(a[0]);
            case 2: return x.join(a[0], a[1]);
            case 3: return x.part(a[0]);
            case 4: return x.vote(a[0], a[1], a[2], a[3]);
            case 5: return x.score(a[0], a[1], a[2]);
            case 6: return x.set(a[0], a[1]);
            case 7: return x.prize(a[0], a[1]);
            case 8: return x.type((char) a[0]);
            case 9: return x.clearText();
            case 10: return x.undo();
            case 11: return x.keep();
            case 12: return x.restore();
            case 13: return x.caption(a[0], a[1]);
            case 14: return x.letter(a[0], a[1]);
            case 15: return x.group(a[0], a[1]);
            case 16: return x.judged(a[0], a[1], a[2]);
            case 17: return x.ballot(a[0], a[1], a[2] == 1);
            case 18: return x.ranked(a[0]);
            case 19: return x.round(a[0], a[1]);
            case 20: return x.distance(a[0], a[1]);
            case 21: return x.near(a[0], a[1]);
            case 22: return x.author(a[0], a[1]);
            default: return x.count(a[0]);
        }
    }

    private int refer(int what, int[] a) {
        Reference x = reference;
        switch (what) {
            case 0: return x.submit(a[0]);
            case 1: return x.withdraw(a[0]);
            case 2: return x.join(a[0], a[1]);
            case 3: return x.part(a[0]);
            case 4: return x.vote(a[0], a[1], a[2], a[3]);
            case 5: return x.score(a[0], a[1], a[2]);
            case 6: return x.set(a[0], a[1]);
            case 7: return x.prize(a[0], a[1]);
            case 8: return x.type((char) a[0]);
            case 9: return x.clearText();
            case 10: return x.undo();
            case 11: return x.keep();
            case 12: return x.restore();
            case 13: return x.caption(a[0], a[1]);
            case 14: return x.letter(a[0], a[1]);
            case 15: return x.group(a[0], a[1]);
            case 16: return x.judged(a[0], a[1], a[2]);
            case 17: return x.ballot(a[0], a[1], a[2] == 1);
            case 18: return x.ranked(a[0]);
            case 19: return x.round(a[0], a[1]);
            case 20: return x.distance(a[0], a[1]);
            case 21: return x.near(a[0], a[1]);
            case 22: return x.author(a[0], a[1]);
            default: return x.count(a[0]);
        }
    }
}
