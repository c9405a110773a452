/** Promises 11 and 12: of, at. */
final class StandingsTest {
    private static final Due due = new Due();

    public static void main(String[] args) {
        records();
        tiesByHalves();
        tiesByMargins();
        tiesByMetWins();
        cutMargins();
        goneOnes();
        wrongNumbers();
        due.finish();
    }

    private static void ofIs(MockTrials x, int school, int known, int... want) {
        for (int what = 0; what < want.length; what++) {
            due.is("of(" + school + ", " + known + ", " + what + ")", x.of(school, known, what), want[what]);
        }
    }

    private static void orderIs(MockTrials x, int known, int... want) {
        for (int place = 0; place < want.length; place++) {
            due.is("at(" + place + ", " + known + ")", x.at(place, known), want[place]);
            due.is("place of " + want[place], x.of(want[place], known, 4), place);
        }
        due.is("at(" + want.length + ", " + known + ")", x.at(want.length, known), -1);
    }

    private static void records() {
        MockTrials x = Due.with(5, 4);
        x.pair(0);
        // 0-1 with judges 0, 1; 2-3 with 2, 3; 4 has the bye.
        x.ballot(0, 0, 0, 50, 60, 5);
        x.ballot(0, 0, 1, 70, 90, 6);
        x.ballot(0, 1, 2, 30, 30, 5);
        ofIs(x, 0, 4, 0, 0, 0, 0, 1, 1, 0);
        ofIs(x, 4, 4, 2, 0, 0, 0, 0, 0, 1);
        ofIs(x, 0, 5, 0, 0, 2, -1000, 4, 1, 0);
        ofIs(x, 1, 5, 2, 2, 0, 1000, 0, 0, 0);
        ofIs(x, 1, 6, 2, 4, 0, 2000, 0, 0, 0);
        ofIs(x, 2, 5, 1, 1, 1, 0, 2, 1, 0);
        ofIs(x, 3, 5, 1, 1, 1, 0, 3, 0, 0);
        ofIs(x, 4, 6, 2, 0, 0, 0, 1, 0, 1);
        orderIs(x, 0, 4, 0, 1, 2, 3);
        orderIs(x, 5, 1, 4, 2, 3, 0);
        x.ballot(0, 0, 0, 61, 60, 7);
        // Judge 0 turned: a ballot each, alike.
        ofIs(x, 0, 7, 1, 2, 1, 0, 1, 1, 0);
        ofIs(x, 1, 7, 1, 2, 1, 0, 2, 0, 0);
        ofIs(x, 0, 6, 0, 0, 2, -2000, 4, 1, 0);
    }

    private static void tiesByHalves() {
        MockTrials x = Due.with(4, 4);
        x.pair(0);
        x.ballot(0, 0, 0, 80, 70, 0);
        x.ballot(0, 0, 1, 70, 70, 0);
        x.ballot(0, 1, 2, 80, 70, 0);
        x.ballot(0, 1, 3, 80, 79, 0);
        ofIs(x, 0, 0, 2, 3);
        ofIs(x, 1, 0, 0, 1);
        ofIs(x, 2, 0, 2, 4);
        ofIs(x, 3, 0, 0, 0);
        orderIs(x, 0, 2, 0, 1, 3);
    }

    private static void tiesByMetWins() {
        MockTrials x = Due.with(3, 3);
        x.pair(0);
        // 0 and 1 are alike; 1 meets 2, which has 2 wins by its bye, and nobody tells a ballot of it.
        x.ballot(0, 0, 0, 50, 50, 0);
        x.gone(0, true);
        x.pair(0);
        x.gone(0, false);
        ofIs(x, 0, 0, 1, 1, 1, 0);
        ofIs(x, 1, 0, 1, 1, 3, 0);
        ofIs(x, 2, 0, 2, 0, 1, 0);
        orderIs(x, 0, 2, 1, 0);
    }

    private static void tiesByMargins() {
        MockTrials x = Due.with(4, 4);
        x.pair(0);
        x.ballot(0, 0, 0, 60, 50, 0);
        x.ballot(0, 1, 2, 90, 50, 0);
        // One ballot each: both margins are a thousand, by each judge's own span.
        ofIs(x, 0, 0, 2, 2, 0, 1000, 0);
        ofIs(x, 2, 0, 2, 2, 0, 1000, 1);
        x.gone(2, true);
        x.gone(3, true);
        x.school();
        x.school();
        x.pair(0);
        // 0 and 1 meet 4 and 5, with judges who widen the span of judge 2 alone.
        int t = x.trial(1, 0, 3) == 2 ? 0 : 1;
        due.is("judge 2 sits again", x.trial(1, t, 3) == 2 || x.trial(1, t, 4) == 2 ? 1 : 0, 1);
        x.ballot(1, t, 2, 10, 10, 1);
        x.gone(2, false);
        due.is("a wider span, a lesser margin", x.of(2, 1, 3), 40 * 1000 / 80);
        due.is("known ahead of it", x.of(2, 0, 3), 1000);
        marginsDecide();
    }

    private static void marginsDecide() {
        MockTrials x = Due.with(4, 4);
        x.pair(0);
        x.ballot(0, 0, 0, 55, 50, 0);
        x.ballot(0, 0, 1, 50, 50, 0);
        x.ballot(0, 1, 2, 50, 50, 0);
        x.ballot(0, 1, 3, 10, 90, 0);
        orderIs(x, 0, 0, 3, 1, 2);
        x.pair(0);
        // Winners 0 and 3 meet, losers 1 and 2; their judges are kept apart, so the spans stay.
        due.is("0 and 3 met", x.met(0, 3), 1);
        ofIs(x, 0, 0, 2, 3, 2, 1000, 0);
        ofIs(x, 3, 0, 2, 3, 2, 1000, 1);
        narrowAndWide();
    }

    private static void narrowAndWide() {
        MockTrials x = Due.with(6, 2);
        // Only judges 0 and 1 are there: both sit in trial 0, the rest has none.
        x.pair(0);
        x.gone(0, true);
        x.gone(1, true);
        x.pair(0);
        due.is("judge 0 in round 1", x.trial(1, 0, 3), 0);
        int accuser = x.trial(1, 0, 0);
        int defender = x.trial(1, 0, 1);
        x.gone(0, false);
        x.gone(1, false);
        x.ballot(0, 0, 0, 30, 20, 0);
        x.ballot(1, 0, 0, 100, 60, 0);
        due.is("span", x.span(0, 0), 80);
        due.is("margin of 0", x.of(0, 0, 3), 125);
        due.is("margin of 1", x.of(1, 0, 3), -125);
        due.is("margin of the accuser", x.of(accuser, 0, 3), 500);
        due.is("margin of the defender", x.of(defender, 0, 3), -500);
        int ahead = x.of(accuser, 0, 4);
        due.is("alike in wins", x.of(accuser, 0, 0), x.of(0, 0, 0));
        due.is("alike in halves", x.of(accuser, 0, 1), x.of(0, 0, 1));
        due.is("alike in wins met", x.of(accuser, 0, 2), x.of(0, 0, 2));
        due.is("the greater margin is ahead", ahead, 0);
        due.is("the lesser behind", x.of(0, 0, 4), 1);
    }

    private static void cutMargins() {
        MockTrials x = Due.with(2, 6);
        x.pair(0);
        x.ballot(0, 0, 0, 51, 50, 0);
        x.ballot(0, 0, 1, 0, 100, 0);
        due.is("both margins", x.of(0, 0, 3), 0);
        MockTrials y = Due.with(6, 2);
        y.pair(0);
        y.gone(0, true);
        y.gone(1, true);
        y.pair(0);
        y.ballot(0, 0, 0, 50, 51, 0);
        y.ballot(1, 0, 0, 53, 50, 0);
        due.is("span of three", y.span(0, 0), 3);
        due.is("less, cut towards nothing", y.of(0, 0, 3), -333);
        due.is("more, cut towards nothing", y.of(1, 0, 3), 333);
    }

    private static void goneOnes() {
        MockTrials x = Due.with(3, 2);
        x.pair(0);
        x.ballot(0, 0, 0, 90, 10, 0);
        x.gone(0, true);
        due.is("a gone one has no place", x.of(0, 0, 4), -1);
        ofIs(x, 0, 0, 2, 2, 0, 1000);
        due.is("it accused", x.of(0, 0, 5), 1);
        ofIs(x, 1, 0, 0, 0, 2, -1000, 1, 0, 0);
        orderIs(x, 0, 2, 1);
        x.gone(0, false);
        orderIs(x, 0, 0, 2, 1);
        x.gone(1, true);
        due.is("the last one leaves no place behind", x.of(1, 0, 4), -1);
        orderIs(x, 0, 0, 2);
    }

    private static void wrongNumbers() {
        MockTrials x = Due.with(2, 0);
        int nothing = -1000000;
        for (int what = 0; what <= 6; what++) {
            due.is("no such school", x.of(2, 0, what), nothing);
            due.is("no such school", x.of(-1, 0, what), nothing);
            due.is("hour -1", x.of(0, -1, what), nothing);
            due.is("hour 100001", x.of(0, 100001, what), nothing);
        }
        due.is("what 7", x.of(0, 0, 7), nothing);
        due.is("what -1", x.of(0, 0, -1), nothing);
        due.is("what greatest", x.of(0, 0, Integer.MAX_VALUE), nothing);
        due.is("last hour", x.of(0, 100000, 0), 0);
        due.is("at(-1)", x.at(-1, 0), -1);
        due.is("at(2)", x.at(2, 0), -1);
        due.is("at(greatest)", x.at(Integer.MAX_VALUE, 0), -1);
        due.is("at hour -1", x.at(0, -1), -1);
        due.is("at hour 100001", x.at(0, 100001), -1);
        due.is("at hour 100000", x.at(1, 100000), 1);
        due.is("status is left alone", x.status(), 0);
        MockTrials full = Due.with(14, 0);
        due.is("the last place", full.at(13, 0), 13);
        due.is("behind it", full.at(14, 0), -1);
    }
}
