/** Boundary cases of promises 24 and 25, count and status, and of the 512 calls. */
final class StatusEdgesTest {
    private static final Due due = new Due();
    private static final Effect effect = new Effect(due);
    /** As busy as BUSY, and full of schools, judges, witnesses and implications. */
    private static final Effect.Made FULL = Weeks.then(Weeks.BUSY, x -> {
        Due.people(x, 9, 14);
        for (int i = 2; i < 10; i++) {
            x.witness(i);
        }
        for (int i = 2; i < 40; i++) {
            x.implies(i, 5);
        }
    });

    public static void main(String[] args) {
        countNumbers();
        countsAtFirstAndLast();
        aheadOfAny();
        refusedCalls();
        firstInThatOrder();
        callsThatAreTaken();
        callsThatCanNotBeRefused();
        latestCall();
        lastCall();
        due.finish();
    }

    private static void countNumbers() {
        due.sentence("9 bytes of the TAPE, 10 QUESTIONS put. NONE for others.");
        for (int n : Due.outside(0, 10)) {
            effect.asked("count(" + n + ") of a new object", Weeks.NEW, x -> x.count(n), -1);
            effect.asked("count(" + n + ")", Weeks.BUSY, x -> x.count(n), -1);
        }
        int[] busy = {5, 4, 6, 1, 2, 4, 2, 2, 2, 15, 2};
        for (int i = 0; i < busy.length; i++) {
            int what = i;
            effect.asked("count(" + what + ")", Weeks.BUSY, x -> x.count(what), busy[what]);
        }
    }

    private static void countsAtFirstAndLast() {
        due.sentence("0 SCHOOLS, 1 those that are there, 2 JUDGES, 3 KIN, 4 ROUNDS, 5 BALLOTS, 6 WITNESSES, 7 IMPLICATIONS, 8 RULES");
        int[] full = {14, 13, 20, 1, 2, 4, 10, 40, 2, 15, 2};
        for (int i = 0; i < full.length; i++) {
            int what = i;
            effect.asked("count(" + what + ")", FULL, x -> x.count(what), full[what]);
            effect.asked("count(" + what + ") of a new object", Weeks.NEW, x -> x.count(what), 0);
        }
        Effect.Made gone = Weeks.then(Weeks.with(14, 0), x -> {
            for (int i = 0; i < 14; i++) {
                x.gone(i, true);
            }
        });
        effect.asked("none is there", gone, x -> x.count(1), 0);
        effect.asked("but 14 are schools", gone, x -> x.count(0), 14);
    }

    private static void aheadOfAny() {
        due.sentence("0 if it was not, or ahead of any.");
        effect.asked("status() of a new object", Weeks.NEW, x -> x.status(), 0);
        effect.asked("behind calls that can't be refused", x -> {
            x.trial(-1, -1, -1);
            x.counts(-1, -1, -1, -1, -1);
            x.of(-1, -1, -1);
            x.at(-1, -1);
            x.span(-1, -1);
            x.met(-1, -1);
            x.implied(-1);
            x.feed(-1, -1, -1, -1, -1);
            x.end(-1);
            x.fault();
            x.object(-1, -1, -1, true);
            x.count(-1);
            x.status();
        }, x -> x.status(), 0);
        MockTrials x = new MockTrials();
        x.school();
        due.is("behind one that was not refused", x.status(), 0);
    }

    private static void refusedCalls() {
        due.sentence("What the latest call of those that can be REFUSED (with a code above) was REFUSED by");
        effect.refused("school", FULL, x -> x.school(), -5);
        effect.refused("gone", FULL, x -> x.gone(14, true), -2);
        effect.refused("judge", FULL, x -> x.judge(), -5);
        effect.refused("kin", FULL, x -> x.kin(20, 0), -2);
        effect.refused("rooms", FULL, x -> x.rooms(8), -1);
        effect.refused("pair at no hour", FULL, x -> x.pair(-1), -1);
        effect.refused("pair of too few", Weeks.with(1, 1), x -> x.pair(0), -3);
        effect.refused("pair without rooms", Weeks.then(FULL, x -> x.rooms(5)), x -> x.pair(0), -5);
        effect.refused("ballot of too many points", FULL, x -> x.ballot(0, 0, 0, 101, 0, 0), -1);
        effect.refused("ballot of no round", FULL, x -> x.ballot(2, 0, 0, 0, 0, 0), -2);
        effect.refused("ballot of another judge", FULL, x -> x.ballot(0, 0, 19, 0, 0, 0), -3);
        effect.refused("witness", FULL, x -> x.witness(0), -5);
        effect.refused("implies no fact", FULL, x -> x.implies(0, 32), -1);
        effect.refused("implies", FULL, x -> x.implies(0, 31), -5);
        effect.refused("ask for no fact", FULL, x -> x.ask(0, 32), -1);
        effect.refused("ask no witness", FULL, x -> x.ask(10, 0), -2);
        MockTrials x = new MockTrials();
        due.is("rules", Due.rules(x, "?"), -6);
        due.is("status() behind rules", x.status(), -6);
    }

    /** Each two codes that one call can have, where both would fit. */
    private static void firstInThatOrder() {
        due.sentence("The first of these in that order.");
        Effect.Made kin = x -> {
            Due.people(x, 14, 5);
            for (int i = 0; i < 60; i++) {
                x.kin(i / 14, i % 14);
            }
        };
        Effect.Made rounds = x -> {
            Due.people(x, 2, 4);
            for (int i = 0; i < 8; i++) {
                x.pair(0);
            }
        };
        Effect.Made ballots = Weeks.then(rounds, x -> {
            for (int i = 0; i < 400; i++) {
                x.ballot(0, 0, i % 2, 50, i % 101, i % 7);
            }
            x.gone(0, true);
        });
        effect.refused("-1 ahead of -2: ask", FULL, x -> x.ask(10, 32), -1);
        effect.refused("-1 ahead of -2: ballot", FULL, x -> x.ballot(2, 0, 0, 101, 0, 0), -1);
        effect.refused("-1 ahead of -3: ballot", FULL, x -> x.ballot(0, 0, 19, 0, 0, -1), -1);
        effect.refused("-1 ahead of -3: pair", Weeks.with(1, 0), x -> x.pair(100001), -1);
        effect.refused("-1 ahead of -5: pair", rounds, x -> x.pair(100001), -1);
        effect.refused("-1 ahead of -5: ballot", ballots, x -> x.ballot(0, 0, 0, 0, 101, 0), -1);
        effect.refused("-1 ahead of -5: implies", FULL, x -> x.implies(0, 32), -1);
        effect.refused("-2 ahead of -3: ballot", FULL, x -> x.ballot(2, 0, 19, 0, 0, 0), -2);
        effect.refused("-2 ahead of -5: ballot", ballots, x -> x.ballot(0, 0, 4, 0, 0, 0), -2);
        effect.refused("-2 ahead of -5: kin", kin, x -> x.kin(5, 13), -2);
        effect.refused("-3 ahead of -5: ballot", ballots, x -> x.ballot(0, 0, 2, 0, 0, 0), -3);
        effect.refused("-3 ahead of -5: pair", ballots, x -> x.pair(0), -3);
        effect.refused("-5 alone: ballot", ballots, x -> x.ballot(0, 0, 0, 0, 0, 0), -5);
    }

    private static void callsThatAreTaken() {
        due.sentence("0 if it was not");
        effect.taken("school", Weeks.BUSY, x -> x.school(), 5);
        effect.taken("gone", Weeks.BUSY, x -> x.gone(4, true), 0);
        effect.taken("there again", Weeks.BUSY, x -> x.gone(2, false), 0);
        effect.taken("judge", Weeks.BUSY, x -> x.judge(), 6);
        effect.taken("kin", Weeks.BUSY, x -> x.kin(5, 4), 2);
        effect.taken("kin told again", Weeks.BUSY, x -> x.kin(4, 0), 1);
        effect.taken("rooms", Weeks.BUSY, x -> x.rooms(7), 6);
        effect.taken("pair", Weeks.BUSY, x -> x.pair(0), 2);
        effect.taken("ballot", Weeks.BUSY, x -> x.ballot(0, 0, 0, 0, 0, 0), 5);
        effect.taken("witness", Weeks.BUSY, x -> x.witness(0), 2);
        effect.taken("implies", Weeks.BUSY, x -> x.implies(0, 0), 3);
        effect.taken("rules", Weeks.BUSY, x -> x.rules(), 1);
        effect.taken("ask", Weeks.BUSY, x -> x.ask(0, 0), 1);
    }

    private static void callsThatCanNotBeRefused() {
        due.sentence("of those that can be REFUSED (with a code above)");
        for (int n : new int[] {0, -1}) {
            effect.statusStays("trial", Weeks.BUSY, x -> x.trial(n, n, n));
            effect.statusStays("counts", Weeks.BUSY, x -> x.counts(n, n, n, n, n));
            effect.statusStays("of", Weeks.BUSY, x -> x.of(n, n, n));
            effect.statusStays("at", Weeks.BUSY, x -> x.at(n, n));
            effect.statusStays("span", Weeks.BUSY, x -> x.span(n, n));
            effect.statusStays("met", Weeks.BUSY, x -> x.met(n, n));
            effect.statusStays("implied", Weeks.BUSY, x -> x.implied(n));
            effect.statusStays("feed", Weeks.BUSY, x -> x.feed(n, n, n, n, n));
            effect.statusStays("end", Weeks.BUSY, x -> x.end(n));
            effect.statusStays("fault", Weeks.BUSY, x -> x.fault());
            effect.statusStays("object", Weeks.BUSY, x -> x.object(n, n, n, false));
            effect.statusStays("count", Weeks.BUSY, x -> x.count(n));
            effect.statusStays("status", Weeks.BUSY, x -> x.status());
        }
    }

    private static void latestCall() {
        due.sentence("What the latest call");
        MockTrials x = Due.with(2, 1);
        int[] codes = {x.rooms(0), x.status(), x.gone(2, true), x.status(), x.status(), x.judge(), x.status(), Due.rules(x, "?"),
            x.status(), x.fault(), x.status(), x.pair(0), x.status(), x.ballot(0, 0, 1, 0, 0, 0), x.status(), x.judge(), x.status(),
            x.ballot(0, 0, 2, 0, 0, 0), x.status(), x.met(0, 5), x.status()};
        int[] want = {-1, -1, -2, -2, -2, 1, 0, -6, -6, 0, -6, 0, 0, 1, 0, 2, 0, -3, -3, -1, -3};
        for (int i = 0; i < want.length; i++) {
            due.is("answer " + i, codes[i], want[i]);
        }
    }

    private static void lastCall() {
        due.sentence("An object is used for at most 512 calls after it has been made; what later calls answer is free.");
        MockTrials x = new MockTrials();
        x.witness(0);
        for (int call = 2; call <= 511; call++) {
            due.is("call " + call, x.ask(0, 31), call - 2);
        }
        due.is("call 512", x.count(10), 510);
        MockTrials y = new MockTrials();
        for (int call = 1; call <= 511; call++) {
            y.school();
        }
        due.is("call 512", y.school(), -5);
    }
}
