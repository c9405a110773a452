/** Ways to make an object that several tests start from. */
final class Weeks {
    static final Effect.Made NEW = x -> { };
    static final Effect.Made BUSY = Weeks::busy;

    private Weeks() {
    }

    static Effect.Made with(int schools, int judges) {
        return x -> Due.people(x, schools, judges);
    }

    static Effect.Made then(Effect.Made first, Effect.Made next) {
        return x -> {
            first.on(x);
            next.on(x);
        };
    }

    static Effect.Made tape(String text) {
        return x -> Due.text(x, text);
    }

    /**
     * Something of all there is: 5 schools of which 2 is gone, 5 judges, 2 rounds with byes of 4 and 2,
     * ballots, 2 witnesses, 2 implications, 2 questions, 2 rules, and a text on the tape.
     */
    private static void busy(MockTrials x) {
        Due.people(x, 5, 5);
        x.kin(4, 0);
        x.rooms(6);
        x.pair(0);
        // Trials 0-1 with judges 0 and 1, 2-3 with 2 and 3.
        x.ballot(0, 0, 0, 80, 70, 1);
        x.ballot(0, 0, 1, 60, 60, 2);
        x.ballot(0, 1, 2, 10, 90, 1);
        x.pair(2);
        // Trials 3-0 without a judge (all have judged 0 or 3, or are kin), 4-1 with 2 and 3.
        x.ballot(1, 1, 2, 55, 45, 3);
        x.gone(2, true);
        x.witness(1);
        x.witness(Integer.MIN_VALUE);
        x.implies(1, 31);
        x.implies(2, 3);
        Due.rules(x, "sustain leading if cross; sustain hearsay if asked");
        x.ask(0, 0);
        x.ask(1, 31);
        Due.text(x, "sustain stretch");
        x.judge();
    }
}
