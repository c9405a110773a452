/** The tests of refused calls rest on Effect: it must see every change that a call can make. */
final class EffectTest {
    private static final Due due = new Due();
    private static final Effect effect = new Effect(due);

    public static void main(String[] args) {
        seen("school", x -> x.school());
        seen("gone", x -> x.gone(0, true));
        seen("there again", x -> x.gone(2, false));
        seen("judge", x -> x.judge());
        seen("kin", x -> x.kin(5, 4));
        seen("rooms", x -> x.rooms(5));
        seen("pair", x -> x.pair(0));
        seen("ballot", x -> x.ballot(0, 1, 3, 1, 2, 100000));
        seen("ballot put right", x -> x.ballot(0, 0, 0, 80, 71, 1));
        seen("witness", x -> x.witness(0));
        seen("implies", x -> x.implies(0, 30));
        seen("feed", x -> x.feed(0, 0, 0, 0, 0));
        seen("end", x -> x.end(14));
        seen("rules", x -> x.rules());
        seen("ask", x -> x.ask(0, 1));
        seen("other bytes, as many", x -> {
            x.end(8);
            Due.text(x, "hearsay");
        });
        seen("other rules, as many", x -> {
            x.end(0);
            Due.rules(x, "sustain leading if cross; sustain hearsay if not asked");
            Due.text(x, "sustain stretch");
        });
        effect.alike("nothing", Weeks.BUSY, Weeks.BUSY);
        busyIsAsItSays();
        due.finish();
    }

    private static void seen(String name, Effect.Made change) {
        effect.differ(name, Weeks.BUSY, Weeks.then(Weeks.BUSY, change));
    }

    private static void busyIsAsItSays() {
        MockTrials x = new MockTrials();
        Weeks.BUSY.on(x);
        int[] counts = {5, 4, 6, 1, 2, 4, 2, 2, 2, 15, 2};
        for (int what = 0; what < counts.length; what++) {
            due.is("count(" + what + ")", x.count(what), counts[what]);
        }
        due.is("bye of round 0", x.trial(0, -1, 1), 4);
        due.is("bye of round 1", x.trial(1, -1, 1), 2);
        int[][] trials = {{0, 1, 0, 0, 1}, {2, 3, 1, 2, 3}, {3, 0, 0, -1, -1}, {4, 1, 1, 2, 3}};
        for (int i = 0; i < trials.length; i++) {
            for (int what = 0; what < 5; what++) {
                due.is("trial(" + i / 2 + ", " + i % 2 + ", " + what + ")", x.trial(i / 2, i % 2, what), trials[i][what]);
            }
        }
        due.is("status", x.status(), 0);
    }
}
