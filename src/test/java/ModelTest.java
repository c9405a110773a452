import java.util.Random;

/**
 * All promises: long runs of calls, made of fixed seeds, must answer as the plain model does. No run goes
 * beyond the 512 calls of which something is promised.
 */
final class ModelTest {
    private static final int CALLS = 512;
    private static final String[] WORDS = {"sustain", "leading", "hearsay", "stretch", "relevance", "if", "or", "and",
        "not", "cross", "stated", "implied", "asked", "fact", "fact 3", "fact 31", "fact 32", "(", ")", ";", "7", "x", "\u00e9"};
    private static final String[] ATOMS = {"cross", "stated", "implied", "asked", "fact 0", "fact 1", "fact 2", "fact 31"};
    private static final String[] KINDS = {"leading", "hearsay", "stretch", "relevance"};

    private final Due due = new Due();
    private MockTrials x;
    private Model y;
    private Random random;
    private String run;
    private int calls;

    public static void main(String[] args) {
        ModelTest test = new ModelTest();
        for (int seed = 0; seed < 400; seed++) {
            test.wildRun(seed);
            test.weekRun(seed);
            test.textRun(seed);
        }
        test.due.finish();
    }

    private void begin(String kind, int seed) {
        x = new MockTrials();
        y = new Model();
        random = new Random(seed);
        run = kind + " " + seed + ": ";
        calls = 0;
    }

    /** Whether one call more is promised an answer; if so, it is counted. */
    private boolean hasCall() {
        return calls++ < CALLS;
    }

    /** Whether to ask this of all that could be asked: what is left must do for the rest of the run. */
    private boolean asks(int oneOf) {
        return random.nextInt(oneOf) == 0 && hasCall();
    }

    /** Mostly numbers that can be, now and then others. */
    private int number(int most) {
        switch (random.nextInt(40)) {
            case 0: return -1;
            case 1: return most + 1;
            case 2: return random.nextInt();
            case 3: return most;
            default: return random.nextInt(most + 1);
        }
    }

    private int hour() {
        return random.nextInt(20) == 0 ? number(100000) : random.nextInt(10);
    }

    private void wildRun(int seed) {
        begin("wild", seed);
        for (int i = 0; i < CALLS; i++) {
            call(random.nextInt(24));
        }
    }

    /** A tournament in its order, so that all rounds are full of ballots. */
    private void weekRun(int seed) {
        begin("week", seed);
        int schools = 2 + seed % 13;
        for (int i = 0; i < schools; i++) {
            call(0);
        }
        int judges = random.nextInt(21);
        for (int i = 0; i < judges; i++) {
            call(2);
        }
        for (int i = random.nextInt(12); i > 0; i--) {
            call(3);
        }
        for (int round = 0; round < 9; round++) {
            int hour = random.nextInt(9) + round;
            if (hasCall()) {
                due.is(run + "pair(" + hour + ")", x.pair(hour), y.pair(hour));
                tellTrials(round);
            }
            for (int i = random.nextInt(3); i > 0; i--) {
                call(1);
            }
        }
        tellStandings();
    }

    private void tellTrials(int round) {
        int trials = Math.max(0, y.trial(round, -1, 0));
        for (int t = -1; t <= trials; t++) {
            for (int what = 0; what < 5; what++) {
                if (asks(4)) {
                    String call = run + "trial(" + round + ", " + t + ", " + what + ")";
                    due.is(call, x.trial(round, t, what), y.trial(round, t, what));
                }
            }
            for (int what = 3; what < 5 && t >= 0; what++) {
                tellBallot(round, t, y.trial(round, t, what));
            }
        }
    }

    private void tellBallot(int round, int t, int judge) {
        for (int again = random.nextInt(4); again > 0 && judge >= 0 && hasCall(); again--) {
            int a = random.nextInt(3) == 0 ? 50 : random.nextInt(101);
            int d = random.nextInt(3) == 0 ? 50 : random.nextInt(101);
            int hour = random.nextInt(9) + round;
            due.is(run + "ballot", x.ballot(round, t, judge, a, d, hour), y.ballot(round, t, judge, a, d, hour));
        }
    }

    private void tellStandings() {
        for (int hour = 0; hour < 18; hour += 4) {
            for (int school = 0; school < 15; school++) {
                for (int what = 0; what < 8; what++) {
                    if (asks(6)) {
                        String call = run + "of(" + school + ", " + hour + ", " + what + ")";
                        due.is(call, x.of(school, hour, what), y.of(school, hour, what));
                    }
                }
                if (asks(3)) {
                    due.is(run + "at(" + school + ", " + hour + ")", x.at(school, hour), y.at(school, hour));
                }
            }
        }
    }

    private void textRun(int seed) {
        begin("text", seed);
        for (int i = 0; i < 3; i++) {
            call(14);
            call(15);
        }
        // A text and what is asked of it take 38 calls at most.
        while (calls + 38 <= CALLS) {
            String text = random.nextBoolean() ? goodText() : words();
            feedBoth(text.substring(0, Math.min(400, text.length())));
            calls += 2;
            due.is(run + "rules of " + text, x.rules(), y.rules());
            due.is(run + "fault of " + text, x.fault(), y.fault());
            for (int j = 0; j < 5; j++) {
                call(21);
                call(22);
                call(23);
            }
        }
    }

    private void feedBoth(String text) {
        StringBuilder padded = new StringBuilder(text);
        while (padded.length() % 20 != 0) {
            padded.append(' ');
        }
        for (int i = 0; i < padded.length(); i += 20) {
            int[] n = new int[5];
            for (int k = 0; k < 5; k++) {
                n[k] = Due.four(padded, i + 4 * k);
            }
            calls++;
            due.is(run + "feed", x.feed(n[0], n[1], n[2], n[3], n[4]), y.feed(n));
        }
        calls++;
        due.is(run + "end", x.end(text.length()), y.end(text.length()));
    }

    private String words() {
        StringBuilder text = new StringBuilder(random.nextInt(4) == 0 ? "" : "sustain leading if ");
        for (int i = random.nextInt(9); i > 0; i--) {
            text.append(WORDS[random.nextInt(WORDS.length)]);
            text.append(random.nextInt(8) == 0 ? "" : random.nextInt(5) == 0 ? "  " : " ");
        }
        return text.toString();
    }

    private String goodText() {
        StringBuilder text = new StringBuilder();
        for (int i = random.nextInt(5); i >= 0; i--) {
            text.append("sustain ").append(KINDS[random.nextInt(4)]);
            if (random.nextInt(4) != 0) {
                text.append(" if ").append(cond(random.nextInt(10)));
            }
            text.append(i > 0 ? " ; " : "");
        }
        return text.toString();
    }

    private String cond(int depth) {
        if (depth == 0) {
            return ATOMS[random.nextInt(ATOMS.length)];
        }
        switch (random.nextInt(4)) {
            case 0: return "not " + cond(depth - 1);
            case 1: return "(" + cond(depth - 1) + ")";
            case 2: return cond(0) + " and " + cond(depth - 1);
            default: return cond(depth - 1) + " or " + cond(0);
        }
    }

    private void call(int which) {
        if (!hasCall()) {
            return;
        }
        int a = number(13);
        int b = number(13);
        int h = hour();
        String name = run + "call " + which + " with " + a + ", " + b + ", " + h;
        switch (which) {
            case 0: due.is(name, x.school(), y.school()); break;
            case 1: boolean is = random.nextInt(3) == 0; due.is(name, x.gone(a, is), y.gone(a, is)); break;
            case 2: due.is(name, x.judge(), y.judge()); break;
            case 3: a = number(19); due.is(name, x.kin(a, b), y.kin(a, b)); break;
            case 4: a = random.nextInt(4) == 0 ? number(7) : 7; due.is(name, x.rooms(a), y.rooms(a)); break;
            case 5: h = random.nextInt(3) == 0 ? h : -1; due.is(name, x.pair(h), y.pair(h)); break;
            case 6: b = number(5) - 1; due.is(name, x.trial(a % 9, b, h), y.trial(a % 9, b, h)); break;
            case 7: ballotCall(name); break;
            case 8: countsCall(name, h); break;
            case 9: int w = number(6); due.is(name, x.of(a, h, w), y.of(a, h, w)); break;
            case 10: due.is(name, x.at(a, h), y.at(a, h)); break;
            case 11: a = number(19); due.is(name, x.span(a, h), y.span(a, h)); break;
            case 12: due.is(name, x.met(a, b), y.met(a, b)); break;
            case 13: due.is(name, x.status(), y.status()); break;
            default: textCall(name, which, number(3), number(31)); break;
        }
    }

    private void ballotCall(String name) {
        int round = number(7);
        int t = number(3);
        int judge = random.nextBoolean() ? y.trial(round, t, 3) : number(19);
        int p = number(100);
        int q = number(100);
        int h = hour();
        due.is(name, x.ballot(round, t, judge, p, q, h), y.ballot(round, t, judge, p, q, h));
    }

    private void countsCall(String name, int hour) {
        int round = number(7);
        int t = number(3);
        int judge = random.nextBoolean() ? y.trial(round, t, 3) : number(19);
        int side = number(1);
        due.is(name, x.counts(round, t, judge, side, hour), y.counts(round, t, judge, side, hour));
    }

    private void textCall(String name, int which, int a, int f) {
        boolean cross = random.nextBoolean();
        int bits = random.nextInt() & random.nextInt();
        switch (which) {
            case 14: due.is(name, x.witness(bits), y.witness(bits)); break;
            case 15: bits &= random.nextInt() & 7; due.is(name, x.implies(bits, f), y.implies(bits, f)); break;
            case 16: due.is(name, x.implied(a), y.implied(a)); break;
            case 17: due.is(name, x.feed(bits, 1, 2, 3, f), y.feed(bits, 1, 2, 3, f)); break;
            case 18: f = number(400); due.is(name, x.end(f), y.end(f)); break;
            case 19: due.is(name, x.rules(), y.rules()); break;
            case 20: due.is(name, x.fault(), y.fault()); break;
            case 21: due.is(name, x.object(a, number3(a), f % 4, cross), y.object(a, number3(a), f % 4, cross)); break;
            case 22: due.is(name, x.ask(a, f), y.ask(a, f)); break;
            default: f = number(10); due.is(name, x.count(f), y.count(f)); break;
        }
    }

    private static int number3(int a) {
        return a < 0 ? a : a % 3;
    }
}
