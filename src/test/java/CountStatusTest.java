/** Promises 24 and 25: count, status. */
final class CountStatusTest {
    private static final Due due = new Due();

    public static void main(String[] args) {
        counts();
        status();
        askingLeavesStatus();
        due.finish();
    }

    private static void counts() {
        MockTrials x = Due.with(5, 3);
        x.gone(4, true);
        x.kin(2, 0);
        x.kin(2, 1);
        x.pair(0);
        x.ballot(0, 0, 0, 1, 2, 3);
        for (int i = 0; i < 6; i++) {
            x.witness(i);
        }
        for (int i = 0; i < 7; i++) {
            x.implies(i, i);
        }
        Due.rules(x, "sustain leading; sustain leading; sustain hearsay");
        x.feed(0, 0, 0, 0, 0);
        x.end(9);
        for (int i = 0; i < 10; i++) {
            x.ask(0, 0);
        }
        int[] want = {5, 4, 3, 2, 1, 1, 6, 7, 3, 9, 10};
        for (int what = 0; what < want.length; what++) {
            due.is("count(" + what + ")", x.count(what), want[what]);
        }
        due.is("count(11)", x.count(11), -1);
        due.is("count(-1)", x.count(-1), -1);
        due.is("count(least)", x.count(Integer.MIN_VALUE), -1);
    }

    private static void status() {
        MockTrials x = new MockTrials();
        due.is("ahead of any", x.status(), 0);
        x.pair(0);
        due.is("too few", x.status(), -3);
        x.school();
        due.is("school", x.status(), 0);
        x.gone(1, true);
        due.is("no such school", x.status(), -2);
        x.gone(0, false);
        due.is("gone", x.status(), 0);
        x.kin(0, 0);
        due.is("no such judge", x.status(), -2);
        x.judge();
        due.is("judge", x.status(), 0);
        x.rooms(0);
        due.is("no rooms", x.status(), -1);
        x.kin(0, 0);
        due.is("kin", x.status(), 0);
        x.rooms(9);
        x.rooms(7);
        due.is("rooms", x.status(), 0);
        x.implies(0, 32);
        due.is("no fact", x.status(), -1);
        x.witness(0);
        due.is("witness", x.status(), 0);
        x.ask(1, 0);
        due.is("no such witness", x.status(), -2);
        x.implies(1, 1);
        due.is("implies", x.status(), 0);
        Due.rules(x, "x");
        due.is("no rules", x.status(), -6);
        x.ask(0, 0);
        due.is("ask", x.status(), 0);
        Due.rules(x, "x");
        Due.rules(x, "sustain leading");
        due.is("rules", x.status(), 0);
        x.ballot(0, 0, 0, 0, 0, 0);
        due.is("no such round", x.status(), -2);
        x.school();
        x.judge();
        x.pair(-1);
        due.is("no hour", x.status(), -1);
        x.pair(0);
        due.is("pair", x.status(), 0);
        x.pair(0);
        due.is("pair with an answer above 0", x.status(), 0);
        x.judge();
        due.is("judge with an answer above 0", x.status(), 0);
        x.witness(0);
        due.is("witness with an answer above 0", x.status(), 0);
        x.ballot(0, 0, 0, 0, 0, 0);
        due.is("no judge of it", x.status(), -3);
        x.ballot(0, 0, 1, 0, 0, 0);
        due.is("ballot", x.status(), 0);
    }

    private static void askingLeavesStatus() {
        MockTrials x = Due.with(2, 1);
        x.pair(0);
        x.gone(7, true);
        x.trial(9, 9, 9);
        x.trial(0, 0, 0);
        x.counts(9, 9, 9, 9, 9);
        x.of(9, 9, 9);
        x.of(0, 0, 0);
        x.at(9, 9);
        x.at(0, 0);
        x.span(9, 9);
        x.span(0, 0);
        x.met(9, 9);
        x.met(0, 1);
        x.implied(0);
        x.feed(0, 0, 0, 0, 0);
        x.end(0);
        x.end(1);
        x.fault();
        x.object(0, 0, 0, false);
        x.count(0);
        x.count(99);
        x.status();
        due.is("status is left alone", x.status(), -2);
    }
}
