/** Boundary cases of terms II and of promises 9, 10 and 13: ballot, counts, span. */
final class BallotEdgesTest {
    private static final Due due = new Due();
    private static final Effect effect = new Effect(due);
    /** 0 and 1 with judges 0 and 1, 2 and 3 with judges 2 and 3; judge 4 sits nowhere. */
    private static final Effect.Made SEATED = Weeks.then(Weeks.with(4, 5), x -> x.pair(0));

    public static void main(String[] args) {
        points();
        hours();
        roundsAndTrials();
        judges();
        emptySeats();
        noJudgeOfThatTrial();
        fourHundred();
        codes();
        toldLast();
        knownByThen();
        countsNumbers();
        countsOfOthers();
        spanNumbers();
        spanAtLeastOne();
        spanOfThoseThatCount();
        due.finish();
    }

    private static Effect.Made told(int round, int t, int judge, int accusing, int defending, int known) {
        return x -> x.ballot(round, t, judge, accusing, defending, known);
    }

    private static void points() {
        due.sentence("points of the accusing and of the defending SCHOOL (0 .. 100 each)");
        for (int n : Due.outside(0, 100)) {
            effect.refused("accusing " + n, SEATED, x -> x.ballot(0, 0, 0, n, 50, 0), -1);
            effect.refused("defending " + n, SEATED, x -> x.ballot(0, 0, 0, 50, n, 0), -1);
            effect.refused("both " + n, Weeks.BUSY, x -> x.ballot(0, 0, 0, n, n, 0), -1);
        }
        int[] ends = {0, 1, 99, 100};
        for (int a : ends) {
            for (int d : ends) {
                effect.taken(a + " and " + d, SEATED, x -> x.ballot(0, 0, 0, a, d, 0), 1);
                Effect.Made made = Weeks.then(SEATED, told(0, 0, 0, a, d, 0));
                effect.asked("accusing " + a, made, x -> x.counts(0, 0, 0, 0, 0), a);
                effect.asked("defending " + d, made, x -> x.counts(0, 0, 0, 1, 0), d);
            }
        }
    }

    private static void hours() {
        due.sentence("HOURS of knowing 0 .. 100,000.");
        for (int n : Due.outside(0, 100000)) {
            effect.refused("ballot known at " + n, SEATED, x -> x.ballot(0, 0, 0, 1, 2, n), -1);
            Effect.Made made = Weeks.then(SEATED, told(0, 0, 0, 1, 2, 0));
            effect.asked("counts as known at " + n, made, x -> x.counts(0, 0, 0, 0, n), -1);
            effect.asked("span as known at " + n, made, x -> x.span(0, n), -1);
        }
        for (int hour : new int[] {0, 1, 99999, 100000}) {
            effect.taken("ballot known at " + hour, SEATED, x -> x.ballot(0, 0, 0, 1, 2, hour), 1);
        }
    }

    private static void roundsAndTrials() {
        due.sentence("-2 there is no such SCHOOL, JUDGE, ROUND, TRIAL, WITNESS");
        for (int n : Due.outside(0, 0)) {
            effect.refused("round " + n + " of one", SEATED, x -> x.ballot(n, 0, 0, 1, 2, 0), -2);
        }
        for (int n : Due.outside(0, 1)) {
            effect.refused("trial " + n + " of two", SEATED, x -> x.ballot(0, n, 0, 1, 2, 0), -2);
            effect.refused("round " + n + " of two", Weeks.BUSY, x -> x.ballot(n, 1, 2, 1, 2, 0), -2);
        }
        effect.taken("the last trial of the last round", Weeks.BUSY, x -> x.ballot(1, 1, 3, 1, 2, 0), 5);
        Effect.Made full = x -> {
            Due.people(x, 14, 20);
            for (int i = 0; i < 8; i++) {
                x.pair(0);
            }
        };
        for (int n : Due.outside(0, 7)) {
            effect.refused("round " + n + " of eight", full, x -> x.ballot(n, 0, 0, 1, 2, 0), -2);
        }
        for (int n : Due.outside(0, 6)) {
            effect.refused("trial " + n + " of seven", full, x -> x.ballot(7, n, 0, 1, 2, 0), -2);
        }
        effect.refused("a round's trial that only another round has", Weeks.then(full, x -> x.gone(0, true)),
            x -> x.ballot(0, 7, 0, 1, 2, 0), -2);
    }

    private static void judges() {
        due.sentence("JUDGES 0 .. 19 (20 at most).");
        for (int n : Due.outside(0, 4)) {
            effect.refused("judge " + n + " of 5", SEATED, x -> x.ballot(0, 0, n, 1, 2, 0), -2);
        }
        Effect.Made last = x -> {
            Due.people(x, 2, 20);
            for (int judge = 0; judge < 18; judge++) {
                x.kin(judge, 0);
            }
            x.pair(0);
        };
        for (int n : Due.outside(0, 19)) {
            effect.refused("judge " + n + " of 20", last, x -> x.ballot(0, 0, n, 1, 2, 0), -2);
        }
        effect.refused("one who is kin", last, x -> x.ballot(0, 0, 17, 1, 2, 0), -3);
        effect.taken("the first judge of the trial", last, x -> x.ballot(0, 0, 18, 1, 2, 0), 1);
        effect.taken("the last judge of all", last, x -> x.ballot(0, 0, 19, 1, 2, 0), 1);
    }

    private static void emptySeats() {
        due.sentence("3, 4 its JUDGES (NONE)");
        Effect.Made half = Weeks.then(Weeks.with(2, 1), x -> x.pair(0));
        effect.refused("a ballot of an empty seat", half, x -> x.ballot(0, 0, -1, 1, 2, 0), -2);
        effect.asked("what counts of an empty seat", half, x -> x.counts(0, 0, -1, 0, 0), -1);
        Effect.Made told = Weeks.then(half, told(0, 0, 0, 7, 8, 0));
        effect.asked("what counts of an empty seat beside another", told, x -> x.counts(0, 0, -1, 0, 0), -1);
        effect.asked("what counts of a later judge", Weeks.then(told, x -> x.judge()), x -> x.counts(0, 0, 1, 0, 0), -1);
        effect.refused("a ballot of a later judge", Weeks.then(half, x -> x.judge()), x -> x.ballot(0, 0, 1, 1, 2, 0), -3);
    }

    private static void noJudgeOfThatTrial() {
        due.sentence("-3 no JUDGE of that TRIAL");
        effect.refused("of the other trial", SEATED, x -> x.ballot(0, 0, 2, 1, 2, 0), -3);
        effect.refused("of the other trial", SEATED, x -> x.ballot(0, 1, 1, 1, 2, 0), -3);
        effect.refused("of no trial", SEATED, x -> x.ballot(0, 1, 4, 1, 2, 0), -3);
        effect.refused("of the other round", Weeks.BUSY, x -> x.ballot(1, 1, 0, 1, 2, 0), -3);
        effect.refused("of a trial without judges", Weeks.BUSY, x -> x.ballot(1, 0, 0, 1, 2, 0), -3);
        effect.taken("the first", SEATED, x -> x.ballot(0, 0, 0, 1, 2, 0), 1);
        effect.taken("the second", SEATED, x -> x.ballot(0, 0, 1, 1, 2, 0), 1);
        effect.taken("of schools that are gone", Weeks.BUSY, x -> x.ballot(0, 1, 3, 1, 2, 0), 5);
        effect.taken("kin since then", Weeks.then(SEATED, x -> x.kin(0, 0)), x -> x.ballot(0, 0, 0, 1, 2, 0), 1);
    }

    /** So many ballots of judges 0 and 1 in turn, told as 1, 2 .. points at hours 0 .. 9. */
    private static Effect.Made ballots(int many) {
        return Weeks.then(Weeks.with(2, 3), x -> {
            x.pair(0);
            for (int i = 0; i < many; i++) {
                x.ballot(0, 0, i % 2, i % 101, 50, i % 10);
            }
        });
    }

    private static void fourHundred() {
        due.sentence("BALLOTS, 400 at most");
        effect.taken("the first", ballots(0), x -> x.ballot(0, 0, 1, 1, 2, 0), 1);
        effect.taken("the 399th", ballots(398), x -> x.ballot(0, 0, 1, 1, 2, 0), 399);
        effect.taken("the 400th", ballots(399), x -> x.ballot(0, 0, 1, 1, 2, 0), 400);
        effect.refused("the 401st", ballots(400), x -> x.ballot(0, 0, 1, 1, 2, 0), -5);
        effect.refused("the last one again", ballots(400), x -> x.ballot(0, 0, 1, 399 % 101, 50, 9), -5);
        effect.asked("400 of them", ballots(400), x -> x.count(5), 400);
        effect.asked("the 400th counts", Weeks.then(ballots(399), told(0, 0, 1, 77, 78, 3)), x -> x.counts(0, 0, 1, 0, 3), 77);
    }

    private static void codes() {
        due.sentence("A BALLOT: how many there are. -1; -2; -3 no JUDGE of that TRIAL; -5.");
        Effect.Made full = ballots(400);
        effect.refused("no judge of it ahead of no room", full, x -> x.ballot(0, 0, 2, 1, 2, 0), -3);
        effect.refused("no such round ahead of no room", full, x -> x.ballot(1, 0, 0, 1, 2, 0), -2);
        effect.refused("no such trial ahead of no room", full, x -> x.ballot(0, 1, 0, 1, 2, 0), -2);
        effect.refused("no such judge ahead of no room", full, x -> x.ballot(0, 0, 3, 1, 2, 0), -2);
        effect.refused("points ahead of no room", full, x -> x.ballot(0, 0, 0, 101, 2, 0), -1);
        effect.refused("an hour ahead of no room", full, x -> x.ballot(0, 0, 0, 1, 2, -1), -1);
        effect.refused("points ahead of no judge of it", SEATED, x -> x.ballot(0, 0, 4, 1, -1, 0), -1);
        effect.refused("an hour ahead of no judge of it", SEATED, x -> x.ballot(0, 0, 4, 1, 1, 100001), -1);
        effect.refused("points ahead of no such round", SEATED, x -> x.ballot(1, 0, 0, 101, 1, 0), -1);
        effect.refused("points ahead of no such trial", SEATED, x -> x.ballot(0, 2, 0, 1, 101, 0), -1);
        effect.refused("an hour ahead of no such judge", SEATED, x -> x.ballot(0, 0, 5, 1, 1, 100001), -1);
        effect.refused("an hour ahead of all of them", SEATED, x -> x.ballot(-1, -1, -1, 1, 1, -1), -1);
        effect.refused("no such trial ahead of no judge of it", SEATED, x -> x.ballot(0, 2, 4, 1, 1, 0), -2);
        effect.refused("no such round ahead of no judge of it", SEATED, x -> x.ballot(1, 0, 4, 1, 1, 0), -2);
    }

    private static void toldLast() {
        due.sentence("As known at an HOUR the BALLOT told last of a TRIAL and JUDGE counts, of those known by then.");
        Effect.Made made = Weeks.then(SEATED, x -> {
            x.ballot(0, 0, 0, 11, 12, 20);
            x.ballot(0, 0, 0, 21, 22, 10);
            x.ballot(0, 0, 1, 31, 32, 0);
            x.ballot(0, 0, 0, 41, 42, 30);
            x.ballot(0, 0, 0, 51, 52, 30);
        });
        int[][] want = {{0, -1}, {9, -1}, {10, 21}, {19, 21}, {20, 21}, {29, 21}, {30, 51}, {31, 51}, {100000, 51}};
        for (int[] w : want) {
            effect.asked("accusing as known at " + w[0], made, x -> x.counts(0, 0, 0, 0, w[0]), w[1]);
            effect.asked("defending as known at " + w[0], made, x -> x.counts(0, 0, 0, 1, w[0]), w[1] < 0 ? -1 : w[1] + 1);
        }
    }

    private static void knownByThen() {
        due.sentence("the HOUR at which it became known");
        for (int hour : new int[] {1, 50, 99999, 100000}) {
            Effect.Made made = Weeks.then(SEATED, told(0, 1, 3, 0, 100, hour));
            effect.asked("an hour early", made, x -> x.counts(0, 1, 3, 1, hour - 1), -1);
            effect.asked("at the hour", made, x -> x.counts(0, 1, 3, 1, hour), 100);
            effect.asked("no points at the hour", made, x -> x.counts(0, 1, 3, 0, hour), 0);
            effect.asked("at the last hour", made, x -> x.counts(0, 1, 3, 1, 100000), 100);
        }
        Effect.Made made = Weeks.then(SEATED, told(0, 1, 3, 0, 100, 0));
        effect.asked("from the first hour on", made, x -> x.counts(0, 1, 3, 1, 0), 100);
    }

    private static void countsNumbers() {
        due.sentence("points of the accusing (side 0), the defending SCHOOL (1); NONE.");
        Effect.Made made = Weeks.then(SEATED, told(0, 1, 3, 60, 70, 5));
        effect.asked("accusing", made, x -> x.counts(0, 1, 3, 0, 5), 60);
        effect.asked("defending", made, x -> x.counts(0, 1, 3, 1, 5), 70);
        for (int n : Due.outside(0, 1)) {
            effect.asked("side " + n, made, x -> x.counts(0, 1, 3, n, 5), -1);
            effect.asked("trial " + n, made, x -> x.counts(0, n, 3, 0, 5), -1);
        }
        for (int n : Due.outside(0, 0)) {
            effect.asked("round " + n, made, x -> x.counts(n, 1, 3, 0, 5), -1);
        }
        for (int n : Due.outside(0, 4)) {
            effect.asked("judge " + n, made, x -> x.counts(0, 1, n, 0, 5), -1);
        }
    }

    private static void countsOfOthers() {
        due.sentence("The BALLOT of a TRIAL's JUDGE that counts as known at an HOUR");
        Effect.Made made = Weeks.then(SEATED, told(0, 1, 3, 60, 70, 5));
        effect.asked("the other judge told none", made, x -> x.counts(0, 1, 2, 0, 5), -1);
        effect.asked("judge of the other trial", made, x -> x.counts(0, 1, 0, 0, 5), -1);
        effect.asked("the other trial", made, x -> x.counts(0, 0, 3, 0, 5), -1);
        effect.asked("a judge of no trial", made, x -> x.counts(0, 1, 4, 0, 5), -1);
        effect.asked("a gone school's ballot", Weeks.then(made, x -> x.gone(2, true)), x -> x.counts(0, 1, 3, 0, 5), 60);
        Effect.Made full = x -> {
            Due.people(x, 14, 20);
            x.pair(0);
            x.ballot(0, 6, 13, 3, 4, 5);
            x.pair(0);
        };
        effect.asked("the last trial", full, x -> x.counts(0, 6, 13, 1, 5), 4);
        effect.asked("no trial behind it", full, x -> x.counts(0, 7, 13, 1, 5), -1);
        effect.asked("no such round", full, x -> x.counts(2, 6, 13, 1, 5), -1);
        effect.asked("the other round", full, x -> x.counts(1, 6, 13, 1, 5), -1);
    }

    private static void spanNumbers() {
        due.sentence("SPAN of a JUDGE as known at an HOUR; NONE.");
        Effect.Made made = Weeks.then(SEATED, told(0, 0, 0, 10, 90, 5));
        for (int n : Due.outside(0, 4)) {
            effect.asked("judge " + n + " of 5", made, x -> x.span(n, 5), -1);
        }
        for (int n : Due.outside(0, 19)) {
            effect.asked("judge " + n + " of 20", Weeks.with(2, 20), x -> x.span(n, 0), -1);
        }
        effect.asked("the last judge", Weeks.with(0, 20), x -> x.span(19, 0), 1);
        effect.asked("at the hour", made, x -> x.span(0, 5), 80);
        effect.asked("an hour early", made, x -> x.span(0, 4), 1);
        effect.asked("at the first hour", made, x -> x.span(0, 0), 1);
        effect.asked("at the last hour", made, x -> x.span(0, 100000), 80);
    }

    private static void spanAtLeastOne() {
        due.sentence("the greatest less the least of all points in BALLOTS that count of that JUDGE, at least 1.");
        effect.asked("without ballots", SEATED, x -> x.span(0, 0), 1);
        effect.asked("of a judge in no trial", SEATED, x -> x.span(4, 0), 1);
        int[][] told = {{0, 0, 1}, {100, 100, 1}, {50, 50, 1}, {50, 51, 1}, {51, 50, 1}, {50, 52, 2}, {0, 100, 100}, {100, 0, 100},
            {1, 100, 99}, {0, 99, 99}};
        for (int[] p : told) {
            Effect.Made made = Weeks.then(SEATED, told(0, 0, 0, p[0], p[1], 0));
            effect.asked("points " + p[0] + " and " + p[1], made, x -> x.span(0, 0), p[2]);
            effect.asked("of the other judge", made, x -> x.span(1, 0), 1);
        }
    }

    private static void spanOfThoseThatCount() {
        due.sentence("in BALLOTS that count of that JUDGE");
        Effect.Made made = Weeks.then(Weeks.with(6, 1), x -> {
            x.pair(0);
            x.gone(0, true);
            x.gone(1, true);
            x.pair(0);
            // Judge 0 sits with 0 and 1, then with two who were never judged.
            x.ballot(0, 0, 0, 40, 45, 3);
            x.ballot(1, 0, 0, 70, 60, 4);
            x.ballot(0, 0, 0, 0, 100, 5);
            x.ballot(0, 0, 0, 65, 66, 6);
        });
        int[] want = {1, 1, 1, 5, 30, 100, 10, 10};
        for (int hour = 0; hour < want.length; hour++) {
            int known = hour;
            effect.asked("as known at " + hour, made, x -> x.span(0, known), want[hour]);
        }
    }
}
