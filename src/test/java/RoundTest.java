/** Promises 7, 8 and 14: pair, trial, met. */
final class RoundTest {
    private static final Due due = new Due();

    public static void main(String[] args) {
        refusals();
        fullHouse();
        wrongTrials();
        byes();
        sides();
        judgesOnce();
        metAsFewAsCanBe();
        closeWins();
        allHaveMet();
        byeOfTheFirst();
        fullWeek();
        met();
        due.finish();
    }

    private static void pairIs(MockTrials x, int round, int t, int accusing, int defending) {
        due.is("trial " + round + " " + t + " accusing", x.trial(round, t, 0), accusing);
        due.is("trial " + round + " " + t + " defending", x.trial(round, t, 1), defending);
    }

    private static void refusals() {
        MockTrials x = new MockTrials();
        due.is("a bad hour ahead of no schools", x.pair(-1), -1);
        due.is("no schools", x.pair(0), -3);
        x.school();
        due.is("one school", x.pair(100000), -3);
        x.school();
        due.is("hour 100001", x.pair(100001), -1);
        for (int i = 0; i < 8; i++) {
            due.is("round " + i, x.pair(i == 0 ? 100000 : 0), i);
        }
        due.is("the ninth", x.pair(0), -5);
        due.is("status", x.status(), -5);
        due.is("a bad hour ahead of no room", x.pair(100001), -1);
        x.gone(0, true);
        due.is("too few ahead of no room", x.pair(0), -3);
        due.is("rounds", x.count(4), 8);
        due.is("met each time", x.met(0, 1), 8);
    }

    private static void fullHouse() {
        MockTrials x = Due.with(14, 20);
        due.is("pair", x.pair(0), 0);
        due.is("trials", x.trial(0, -1, 0), 7);
        due.is("no bye", x.trial(0, -1, 1), -1);
        for (int t = 0; t < 7; t++) {
            pairIs(x, 0, t, 2 * t, 2 * t + 1);
            due.is("room", x.trial(0, t, 2), t);
            due.is("judge", x.trial(0, t, 3), 2 * t);
            due.is("judge", x.trial(0, t, 4), 2 * t + 1);
        }
        x.rooms(6);
        due.is("seven trials in six rooms", x.pair(0), -5);
        x.gone(13, true);
        due.is("six trials and a bye in six rooms", x.pair(0), 1);
        due.is("the bye", x.trial(1, -1, 1), 12);
    }

    private static void wrongTrials() {
        MockTrials x = Due.with(3, 1);
        x.pair(0);
        int[][] wrong = {{-1, 0, 0}, {1, 0, 0}, {0, 1, 0}, {0, -2, 0}, {0, 0, -1}, {0, 0, 5}, {0, -1, 2},
            {0, -1, -1}, {1, -1, 0}, {-1, -1, 0}, {8, 0, 0}, {Integer.MAX_VALUE, 0, 0}, {0, Integer.MAX_VALUE, 0},
            {0, Integer.MIN_VALUE, 0}, {Integer.MIN_VALUE, -1, 0}, {0, 7, 0}};
        for (int[] w : wrong) {
            due.is("trial(" + w[0] + ", " + w[1] + ", " + w[2] + ")", x.trial(w[0], w[1], w[2]), -1);
        }
        due.is("status is left alone", x.status(), 0);
        due.is("a lone judge", x.trial(0, 0, 3), 0);
        due.is("no second one", x.trial(0, 0, 4), -1);
    }

    private static void byes() {
        MockTrials x = Due.with(3, 0);
        int[] due3 = {2, 1, 0, 2, 1, 0};
        for (int round = 0; round < due3.length; round++) {
            x.pair(0);
            due.is("bye of round " + round, x.trial(round, -1, 1), due3[round]);
        }
        due.is("byes", x.of(2, 0, 6), 2);
        due.is("wins by byes", x.of(2, 0, 0), 4);
    }

    private static void sides() {
        MockTrials x = Due.with(2, 0);
        x.pair(0);
        pairIs(x, 0, 0, 0, 1);
        x.pair(0);
        pairIs(x, 1, 0, 1, 0);
        x.pair(0);
        pairIs(x, 2, 0, 0, 1);
        x.school();
        x.gone(0, true);
        x.pair(0);
        // 1 accused once, 2 never did.
        pairIs(x, 3, 0, 2, 1);
    }

    private static void judgesOnce() {
        MockTrials x = Due.with(2, 5);
        int[][] want = {{0, 1}, {2, 3}, {4, -1}, {-1, -1}};
        for (int round = 0; round < want.length; round++) {
            x.pair(0);
            due.is("first judge of round " + round, x.trial(round, 0, 3), want[round][0]);
            due.is("second judge of round " + round, x.trial(round, 0, 4), want[round][1]);
        }
        x.judge();
        x.judge();
        x.kin(5, 1);
        x.pair(0);
        due.is("kin are passed over", x.trial(4, 0, 3), 6);
        due.is("without another", x.trial(4, 0, 4), -1);
    }

    private static void metAsFewAsCanBe() {
        MockTrials x = Due.with(4, 0);
        int[][] pairs = {{0, 1}, {0, 2}, {0, 3}, {0, 1}};
        for (int round = 0; round < pairs.length; round++) {
            x.pair(0);
            due.is("met in round " + round, x.met(pairs[round][0], pairs[round][1]), round == 3 ? 2 : 1);
        }
        MockTrials y = Due.with(4, 1);
        y.pair(0);
        y.ballot(0, 0, 0, 9, 1, 0);
        y.gone(2, true);
        y.gone(3, true);
        y.school();
        y.school();
        y.pair(0);
        // 0 has 2 wins; 1 is ahead of 4 and 5 by what it met, but met 0.
        pairIs(y, 1, 0, 4, 0);
        pairIs(y, 1, 1, 1, 5);
        due.is("0 and 1 don't meet again", y.met(0, 1), 1);
    }

    private static void closeWins() {
        MockTrials x = Due.with(6, 6);
        x.pair(0);
        x.ballot(0, 0, 0, 10, 0, 0);
        x.ballot(0, 1, 2, 10, 0, 0);
        x.ballot(0, 2, 4, 10, 10, 0);
        // Wins 2 2 1 1 0 0 of 0 2 4 5 1 3. Winners, alike ones and losers would meet with squares 0,
        // but 4 and 5 have met; four ways have none met and squares 2, and 0 with 2 is the first.
        x.pair(0);
        pairIs(x, 1, 0, 0, 2);
        pairIs(x, 1, 1, 1, 4);
        pairIs(x, 1, 2, 5, 3);
    }

    /** Where all have met, the squares decide among pairs that all count as met. */
    private static void allHaveMet() {
        MockTrials x = Due.with(4, 8);
        x.pair(0);
        x.ballot(0, 0, 0, 9, 1, 0);
        x.ballot(0, 1, 2, 9, 1, 0);
        x.pair(0);
        pairIs(x, 1, 0, 0, 2);
        pairIs(x, 1, 1, 1, 3);
        x.ballot(1, 0, 4, 1, 9, 0);
        x.ballot(1, 1, 6, 1, 9, 0);
        x.pair(0);
        pairIs(x, 2, 0, 2, 1);
        pairIs(x, 2, 1, 3, 0);
        // Wins 4 2 2 0 of 2 0 3 1: 2 with 0 and 3 with 1 make 8, 2 with 1 and 0 with 3 would make 16.
        x.pair(0);
        pairIs(x, 3, 0, 2, 0);
        pairIs(x, 3, 1, 3, 1);
    }

    private static void byeOfTheFirst() {
        MockTrials x = Due.with(3, 4);
        x.pair(0);
        x.pair(0);
        pairIs(x, 1, 0, 2, 0);
        due.is("bye of 1", x.trial(1, -1, 1), 1);
        x.ballot(0, 0, 0, 90, 10, 1);
        x.ballot(1, 0, 2, 10, 90, 1);
        due.is("0 is the first", x.at(0, 1), 0);
        x.pair(1);
        due.is("the others had theirs", x.trial(2, -1, 1), 0);
        due.is("1 and 2 meet", x.met(1, 2), 1);
    }

    private static void fullWeek() {
        MockTrials x = Due.with(14, 20);
        for (int round = 0; round < 8; round++) {
            due.is("round", x.pair(0), round);
            due.is("status", x.status(), 0);
            due.is("trials", x.trial(round, -1, 0), 7);
        }
        for (int a = 0; a < 14; a++) {
            int all = 0;
            for (int b = 0; b < 14; b++) {
                all += x.met(a, b);
                due.is("none meet twice", x.met(a, b) > 1 ? 1 : 0, 0);
            }
            due.is("eight were met", all, 8);
            due.is("no wins without ballots", x.of(a, 0, 0), 0);
            due.is("in order of number", x.at(a, 0), a);
        }
        due.is("the last trial's room", x.trial(7, 6, 2), 6);
        due.is("behind the last trial", x.trial(7, 7, 0), -1);
        due.is("behind the last round", x.trial(8, 0, 0), -1);
        due.is("behind the last round", x.trial(8, -1, 0), -1);
        due.is("a ballot behind the last round", x.ballot(8, 0, 0, 0, 0, 0), -2);
    }

    private static void met() {
        MockTrials x = Due.with(3, 0);
        x.pair(0);
        due.is("met(0, 1)", x.met(0, 1), 1);
        due.is("met(1, 0)", x.met(1, 0), 1);
        due.is("met(0, 2)", x.met(0, 2), 0);
        due.is("met(0, 0)", x.met(0, 0), 0);
        due.is("met(0, 3)", x.met(0, 3), -1);
        due.is("met(3, 0)", x.met(3, 0), -1);
        due.is("met(-1, 0)", x.met(-1, 0), -1);
        due.is("met(0, least)", x.met(0, Integer.MIN_VALUE), -1);
        x.gone(1, true);
        due.is("gone ones have met, too", x.met(0, 1), 1);
    }
}
