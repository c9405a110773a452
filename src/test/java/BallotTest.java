/** Promises 9, 10 and 13: ballot, counts, span. */
final class BallotTest {
    private static final Due due = new Due();

    public static void main(String[] args) {
        refusals();
        fullBox();
        corrections();
        wrongCounts();
        spans();
        due.finish();
    }

    private static void refusals() {
        MockTrials x = Due.with(4, 5);
        due.is("no round yet", x.ballot(0, 0, 0, 1, 1, 0), -2);
        x.pair(0);
        int[][] wrong = {
            {0, 0, 0, -1, 0, 0, -1}, {0, 0, 0, 101, 0, 0, -1}, {0, 0, 0, 0, -1, 0, -1}, {0, 0, 0, 0, 101, 0, -1},
            {0, 0, 0, 0, 0, -1, -1}, {0, 0, 0, 0, 0, 100001, -1}, {9, 9, 9, 0, 0, 100001, -1}, {0, 0, 4, 0, 101, 0, -1},
            {1, 0, 0, 0, 0, 0, -2}, {-1, 0, 0, 0, 0, 0, -2}, {0, 2, 0, 0, 0, 0, -2}, {0, -1, 0, 0, 0, 0, -2},
            {0, 0, 5, 0, 0, 0, -2}, {0, 0, -1, 0, 0, 0, -2}, {0, 2, 4, 0, 0, 0, -2},
            {Integer.MAX_VALUE, 0, 0, 0, 0, 0, -2}, {0, Integer.MAX_VALUE, 0, 0, 0, 0, -2},
            {0, 0, Integer.MIN_VALUE, 0, 0, 0, -2}, {0, 0, 4, 0, 0, 0, -3}, {0, 0, 2, 0, 0, 0, -3}, {0, 1, 1, 0, 0, 0, -3}};
        for (int[] w : wrong) {
            due.is("ballot(" + java.util.Arrays.toString(w) + ")", x.ballot(w[0], w[1], w[2], w[3], w[4], w[5]), w[6]);
            due.is("status of it", x.status(), w[6]);
        }
        due.is("none was taken", x.count(5), 0);
        due.is("the least numbers", x.ballot(0, 0, 0, 0, 0, 0), 1);
        due.is("the greatest numbers", x.ballot(0, 1, 3, 100, 100, 100000), 2);
        due.is("status", x.status(), 0);
        due.is("two were taken", x.count(5), 2);
    }

    private static void fullBox() {
        MockTrials x = Due.with(2, 3);
        x.pair(0);
        for (int i = 1; i <= 400; i++) {
            due.is("ballot " + i, x.ballot(0, 0, i % 2, i % 101, 50, 400 - i), i);
        }
        due.is("the next one", x.ballot(0, 0, 0, 1, 1, 1), -5);
        due.is("status", x.status(), -5);
        due.is("no judge of it ahead of no room", x.ballot(0, 0, 2, 1, 1, 1), -3);
        due.is("no such judge ahead of that", x.ballot(0, 0, 3, 1, 1, 1), -2);
        due.is("a bad number ahead of that", x.ballot(0, 0, 3, 1, 101, 1), -1);
        due.is("the last counts", x.counts(0, 0, 0, 0, 0), 400 % 101);
        due.is("ballots", x.count(5), 400);
    }

    private static void corrections() {
        MockTrials x = Due.with(4, 4);
        x.pair(0);
        x.ballot(0, 0, 0, 11, 12, 10);
        x.ballot(0, 0, 0, 21, 22, 30);
        x.ballot(0, 0, 0, 31, 32, 20);
        x.ballot(0, 1, 2, 41, 42, 0);
        int[][] want = {{9, -1, -1}, {10, 11, 12}, {19, 11, 12}, {20, 31, 32}, {30, 31, 32}, {100000, 31, 32}};
        for (int[] w : want) {
            due.is("accusing known at " + w[0], x.counts(0, 0, 0, 0, w[0]), w[1]);
            due.is("defending known at " + w[0], x.counts(0, 0, 0, 1, w[0]), w[2]);
        }
        x.ballot(0, 0, 0, 51, 52, 25);
        due.is("the one told last", x.counts(0, 0, 0, 0, 30), 51);
        due.is("another at 20", x.counts(0, 0, 0, 0, 24), 31);
        due.is("the other judge told nothing", x.counts(0, 0, 1, 0, 100000), -1);
        due.is("the other trial", x.counts(0, 1, 2, 1, 0), 42);
        x.pair(100000);
        due.is("the ballot stays with its round", x.counts(1, 0, 0, 0, 100000), -1);
    }

    private static void wrongCounts() {
        MockTrials x = Due.with(2, 3);
        x.pair(0);
        x.ballot(0, 0, 1, 7, 8, 0);
        due.is("the ballot", x.counts(0, 0, 1, 0, 0), 7);
        int[][] wrong = {{1, 0, 1, 0, 0}, {-1, 0, 1, 0, 0}, {0, 1, 1, 0, 0}, {0, -1, 1, 0, 0}, {0, 0, 2, 0, 0},
            {0, 0, 3, 0, 0}, {0, 0, -1, 0, 0}, {0, 0, 1, 2, 0}, {0, 0, 1, -1, 0}, {0, 0, 1, 0, -1}, {0, 0, 1, 0, 100001},
            {Integer.MAX_VALUE, 0, 1, 0, 0}, {0, Integer.MIN_VALUE, 1, 0, 0}};
        for (int[] w : wrong) {
            due.is("counts(" + java.util.Arrays.toString(w) + ")", x.counts(w[0], w[1], w[2], w[3], w[4]), -1);
        }
        due.is("status is left alone", x.status(), 0);
        MockTrials y = Due.with(2, 1);
        y.pair(0);
        due.is("an empty seat is no judge", y.counts(0, 0, -1, 0, 0), -1);
    }

    private static void spans() {
        MockTrials x = Due.with(4, 4);
        x.pair(0);
        x.gone(0, true);
        x.gone(1, true);
        x.school();
        x.school();
        x.pair(0);
        // Judge 0 sat with 0 and 1, then with two others.
        int t = x.trial(1, 0, 3) == 0 ? 0 : 1;
        due.is("judge 0 sits again", x.trial(1, t, 3), 0);
        due.is("without ballots", x.span(0, 0), 1);
        x.ballot(0, 0, 0, 40, 40, 1);
        due.is("alike points", x.span(0, 1), 1);
        x.ballot(1, t, 0, 70, 55, 2);
        due.is("over all rounds", x.span(0, 2), 30);
        due.is("as known ahead of it", x.span(0, 1), 1);
        x.ballot(0, 0, 0, 60, 61, 3);
        due.is("put right", x.span(0, 3), 15);
        due.is("not known yet", x.span(0, 2), 30);
        x.ballot(0, 0, 1, 0, 100, 0);
        due.is("the widest", x.span(1, 0), 100);
        due.is("of another judge", x.span(0, 3), 15);
        due.is("no such judge", x.span(4, 0), -1);
        due.is("no such judge", x.span(-1, 0), -1);
        due.is("hour -1", x.span(0, -1), -1);
        due.is("hour 100001", x.span(0, 100001), -1);
        due.is("hour 100000", x.span(0, 100000), 15);
    }
}
