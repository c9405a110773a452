/** Boundary cases of terms I and III and of promises 7, 8 and 14: pair, trial, met. */
final class RoundEdgesTest {
    private static final Due due = new Due();
    private static final Effect effect = new Effect(due);

    public static void main(String[] args) {
        hours();
        knownByThen();
        fewerThanTwo();
        eightRounds();
        roomsForTrials();
        codes();
        byeOfOddNumbers();
        byeAheadOfTheLast();
        byeIfAllHad();
        metAgain();
        metTimesDoNotCount();
        metAheadOfSquares();
        squares();
        squaresOfThoseThatMet();
        squaresNotDifferences();
        firstOfThese();
        sides();
        noJudges();
        twoJudges();
        judgedInAnyRound();
        trialNumbers();
        byeOrNone();
        trialsOfAFullWeek();
        metNumbers();
        due.finish();
    }

    /** Trials in order, each of an accusing and a defending school. */
    private static void roundIs(MockTrials x, int round, int... schools) {
        due.is("trials of round " + round, x.trial(round, -1, 0), schools.length / 2);
        for (int i = 0; i < schools.length; i++) {
            due.is("trial(" + round + ", " + i / 2 + ", " + i % 2 + ")", x.trial(round, i / 2, i % 2), schools[i]);
        }
    }

    private static void judgesAre(MockTrials x, int round, int t, int first, int second) {
        due.is("first judge of trial " + t + " of round " + round, x.trial(round, t, 3), first);
        due.is("second judge of trial " + t + " of round " + round, x.trial(round, t, 4), second);
    }

    private static Effect.Made rounds(int schools, int many) {
        return x -> {
            Due.people(x, schools, 3);
            for (int i = 0; i < many; i++) {
                x.pair(0);
            }
        };
    }

    private static void hours() {
        due.sentence("HOURS of knowing 0 .. 100,000.");
        for (int n : Due.outside(0, 100000)) {
            effect.refused("pair(" + n + ")", Weeks.with(2, 2), x -> x.pair(n), -1);
            effect.refused("pair(" + n + ") of a busy one", Weeks.BUSY, x -> x.pair(n), -1);
        }
        effect.taken("the first hour", Weeks.with(2, 2), x -> x.pair(0), 0);
        effect.taken("the next one", Weeks.with(2, 2), x -> x.pair(1), 0);
        effect.taken("the last hour", Weeks.with(2, 2), x -> x.pair(100000), 0);
        effect.taken("the one ahead of it", Weeks.with(2, 2), x -> x.pair(99999), 0);
    }

    /** 1 beats 0 at that hour: from then on 1 is ahead of all. */
    private static MockTrials beaten(int hour) {
        MockTrials x = Due.with(4, 4);
        x.pair(0);
        x.ballot(0, 0, 0, 0, 100, hour);
        return x;
    }

    private static void knownByThen() {
        due.sentence("A ROUND is made as known at an HOUR");
        for (int hour : new int[] {1, 7, 100000}) {
            MockTrials x = beaten(hour);
            x.pair(hour - 1);
            roundIs(x, 1, 0, 2, 1, 3);
            MockTrials y = beaten(hour);
            y.pair(hour);
            roundIs(y, 1, 1, 2, 3, 0);
        }
        MockTrials z = beaten(0);
        z.pair(0);
        roundIs(z, 1, 1, 2, 3, 0);
    }

    private static void fewerThanTwo() {
        due.sentence("-3 fewer than two SCHOOLS are there");
        effect.refused("none", Weeks.NEW, x -> x.pair(0), -3);
        effect.refused("one", Weeks.with(1, 2), x -> x.pair(0), -3);
        effect.taken("two", Weeks.with(2, 2), x -> x.pair(0), 0);
        effect.refused("one of two", Weeks.then(Weeks.with(2, 2), x -> x.gone(0, true)), x -> x.pair(0), -3);
        for (int there = 0; there <= 2; there++) {
            int first = 14 - there;
            Effect.Made few = Weeks.then(Weeks.with(14, 2), x -> {
                for (int i = 0; i < first; i++) {
                    x.gone(i, true);
                }
            });
            if (there < 2) {
                effect.refused(there + " of 14", few, x -> x.pair(0), -3);
            } else {
                effect.taken("two of 14", few, x -> x.pair(0), 0);
            }
        }
        effect.taken("there again", Weeks.then(Weeks.with(2, 0), x -> {
            x.gone(0, true);
            x.gone(0, false);
        }), x -> x.pair(0), 0);
    }

    private static void eightRounds() {
        due.sentence("ROUNDS 0 .. 7 (8 at most), as they are made");
        for (int schools : new int[] {2, 3, 14}) {
            for (int many = 0; many < 8; many++) {
                effect.taken("round " + many, rounds(schools, many), x -> x.pair(100000), many);
            }
            effect.refused("a ninth round of " + schools, rounds(schools, 8), x -> x.pair(0), -5);
            MockTrials x = new MockTrials();
            rounds(schools, 8).on(x);
            due.is("8 of them", x.count(4), 8);
            due.is("refused", x.pair(0), -5);
            due.is("8 of them", x.count(4), 8);
        }
    }

    private static void roomsForTrials() {
        due.sentence("ROOM: the TRIAL's number (-5 if there are more than ROOMS).");
        for (int i = 2; i <= 14; i++) {
            int schools = i;
            for (int j = 1; j <= 7; j++) {
                int rooms = j;
                Effect.Made made = Weeks.then(Weeks.with(schools, 2), x -> x.rooms(rooms));
                if (schools / 2 > rooms) {
                    effect.refused(schools + " schools in " + rooms + " rooms", made, x -> x.pair(0), -5);
                } else {
                    effect.taken(schools + " schools in " + rooms + " rooms", made, x -> x.pair(0), 0);
                }
            }
            MockTrials x = Due.with(schools, 0);
            x.pair(0);
            for (int t = 0; t < 7; t++) {
                due.is("room of trial " + t, x.trial(0, t, 2), t < schools / 2 ? t : -1);
            }
        }
        Effect.Made gone = Weeks.then(Weeks.with(4, 0), x -> {
            x.rooms(1);
            x.gone(0, true);
        });
        effect.taken("gone ones need none", gone, x -> x.pair(0), 0);
        effect.refused("rooms are asked for behind rounds, too", Weeks.then(rounds(4, 7), x -> x.rooms(1)), x -> x.pair(0), -5);
    }

    private static void codes() {
        due.sentence("its number. -1; -3 fewer than two SCHOOLS are there; -5 8 ROUNDS, ROOMS.");
        Effect.Made eight = rounds(2, 8);
        Effect.Made alone = Weeks.then(eight, x -> x.gone(1, true));
        Effect.Made tight = Weeks.then(Weeks.with(4, 0), x -> x.rooms(1));
        for (int n : Due.outside(0, 100000)) {
            effect.refused("an hour ahead of too few", Weeks.with(1, 0), x -> x.pair(n), -1);
            effect.refused("an hour ahead of rounds", eight, x -> x.pair(n), -1);
            effect.refused("an hour ahead of rooms", tight, x -> x.pair(n), -1);
            effect.refused("an hour ahead of all", alone, x -> x.pair(n), -1);
        }
        effect.refused("too few ahead of rounds", alone, x -> x.pair(0), -3);
        effect.refused("rounds and rooms", Weeks.then(rounds(4, 8), x -> x.rooms(1)), x -> x.pair(0), -5);
    }

    private static void byeOfOddNumbers() {
        due.sentence("If they are odd in number, the last one that had no BYE yet has one");
        for (int schools = 2; schools <= 14; schools++) {
            MockTrials x = Due.with(schools, 0);
            x.pair(0);
            due.is("trials of " + schools, x.trial(0, -1, 0), schools / 2);
            due.is("bye of " + schools, x.trial(0, -1, 1), schools % 2 == 0 ? -1 : schools - 1);
            x.gone(schools - 1, true);
            if (schools > 2) {
                x.pair(0);
                // Without its last one an odd number is even, and an even one has a new last one.
                due.is("bye of one less", x.trial(1, -1, 1), schools % 2 == 0 ? schools - 2 : -1);
            }
        }
        MockTrials y = Due.with(3, 0);
        for (int round = 0; round < 3; round++) {
            y.pair(0);
            due.is("each has one, from the last on", y.trial(round, -1, 1), 2 - round);
        }
        due.is("one of the first", y.of(0, 0, 6), 1);
        MockTrials z = Due.with(3, 0);
        z.pair(0);
        z.gone(2, true);
        z.school();
        z.pair(0);
        due.is("a new one had none", z.trial(1, -1, 1), 3);
    }

    private static void byeAheadOfTheLast() {
        due.sentence("the last one that had no BYE yet has one");
        MockTrials x = Due.with(5, 8);
        x.pair(0);
        x.ballot(0, 0, 0, 9, 1, 0);
        x.ballot(0, 1, 2, 9, 1, 0);
        x.pair(0);
        roundIs(x, 1, 0, 2, 4, 1);
        due.is("bye of the last loser", x.trial(1, -1, 1), 3);
        x.ballot(1, 0, 4, 5, 5, 0);
        x.ballot(1, 1, x.trial(1, 1, 3), 1, 9, 0);
        // Wins 3 3 2 2 2 of 0 2 1 3 4: the last two had theirs.
        due.is("the last", x.at(4, 0), 4);
        due.is("the one ahead of it", x.at(3, 0), 3);
        x.pair(0);
        due.is("bye of the third", x.trial(2, -1, 1), 1);
        MockTrials y = Due.with(3, 4);
        y.pair(0);
        y.ballot(0, 0, 0, 9, 1, 0);
        y.pair(0);
        roundIs(y, 1, 2, 0);
        y.ballot(1, 0, 2, 1, 9, 0);
        due.is("the first", y.at(0, 0), 0);
        y.pair(0);
        due.is("bye of the first", y.trial(2, -1, 1), 0);
    }

    private static void byeIfAllHad() {
        due.sentence("(the last one, if all had)");
        MockTrials x = Due.with(4, 0);
        x.gone(3, true);
        for (int round = 0; round < 4; round++) {
            x.pair(0);
        }
        // 3 had none, but is gone; 0, 1 and 2 are alike by their byes.
        due.is("the last one again", x.trial(3, -1, 1), 2);
        x.gone(2, true);
        x.gone(3, false);
        x.pair(0);
        due.is("3 had none yet", x.trial(4, -1, 1), 3);
        due.is("two byes", x.of(2, 0, 6), 2);
        due.is("one bye", x.of(3, 0, 6), 1);
        x.pair(0);
        // 0, 1 and 3 have 2 wins each, but 3 has met nobody: it is the last.
        due.is("the last one again", x.trial(5, -1, 1), 3);
    }

    private static void metAgain() {
        due.sentence("as few pairs as can be that have met in any ROUND");
        MockTrials x = Due.with(4, 0);
        // 0 meets each of the others alone, so that it must meet one of them again ever after.
        for (int other = 1; other < 4; other++) {
            for (int i = 1; i < 4; i++) {
                x.gone(i, i != other);
            }
            x.pair(0);
        }
        for (int i = 1; i < 4; i++) {
            x.gone(i, false);
        }
        int[][] partners = {{1, 2, 3}, {2, 1, 3}, {3, 1, 2}, {1, 2, 3}, {1, 2, 3}};
        for (int i = 0; i < partners.length; i++) {
            int before = x.met(0, partners[i][0]);
            int others = x.met(partners[i][1], partners[i][2]);
            x.pair(0);
            due.is("0 with " + partners[i][0], x.met(0, partners[i][0]), before + 1);
            due.is("the others", x.met(partners[i][1], partners[i][2]), others + 1);
        }
    }

    private static void metTimesDoNotCount() {
        due.sentence("that have met in any ROUND");
        MockTrials x = Due.with(4, 0);
        int[][] met = {{1, 0, 0}, {1, 1, 0}, {1, 1, 1}, {2, 1, 1}, {3, 1, 1}, {4, 1, 1}, {5, 1, 1}, {6, 1, 1}};
        for (int round = 0; round < 8; round++) {
            x.pair(0);
            for (int other = 1; other < 4; other++) {
                due.is("met(0, " + other + ") in round " + round, x.met(0, other), met[round][other - 1]);
            }
        }
        MockTrials y = Due.with(2, 0);
        for (int round = 1; round <= 8; round++) {
            y.pair(0);
            due.is("two schools meet each time", y.met(0, 1), round);
        }
    }

    private static void metAheadOfSquares() {
        due.sentence("as few pairs as can be that have met in any ROUND; of these with the least sum");
        MockTrials x = Due.with(2, 20);
        for (int round = 0; round < 7; round++) {
            x.pair(0);
            x.ballot(round, 0, 2 * round, 50, 50, 0);
        }
        x.school();
        x.school();
        due.is("wins of 0", x.of(0, 0, 0), 7);
        due.is("wins of 1", x.of(1, 0, 0), 7);
        // 0 with 1 and 2 with 3 would make no squares at all, but 0 and 1 have met.
        x.pair(0);
        roundIs(x, 7, 2, 0, 3, 1);
    }

    private static void squares() {
        due.sentence("with the least sum of the squares of differences of WINS");
        MockTrials x = Due.with(6, 6);
        x.pair(0);
        for (int t = 0; t < 3; t++) {
            x.ballot(0, t, 2 * t, 50, 50, 0);
        }
        x.gone(1, true);
        x.gone(3, true);
        x.school();
        x.school();
        // Wins 1 1 1 1 0 0 of 0 2 4 5 6 7, and 4 has met 5: 0 with 2 would come first, and leave
        // 4 and 5 to 6 and 7, with squares 2; there is a way without any.
        x.pair(0);
        roundIs(x, 1, 0, 4, 5, 2, 6, 7);
    }

    private static void squaresOfThoseThatMet() {
        due.sentence("of these with the least sum of the squares of differences of WINS");
        MockTrials x = Due.with(4, 4);
        for (int round = 0; round < 3; round++) {
            x.pair(0);
        }
        x.ballot(0, 0, 0, 1, 9, 0);
        x.ballot(0, 1, 2, 1, 9, 0);
        // All have met all. Wins 2 2 0 0 of 1 3 0 2, who accused 2 1 2 1 times: the winners meet, and the others.
        x.pair(0);
        roundIs(x, 3, 3, 1, 2, 0);
    }

    private static void squaresNotDifferences() {
        due.sentence("the least sum of the squares");
        MockTrials x = Due.with(6, 12);
        x.pair(0);
        roundIs(x, 0, 0, 1, 2, 3, 4, 5);
        x.ballot(0, 0, 0, 50, 50, 0);
        x.ballot(0, 2, 4, 50, 50, 0);
        x.pair(0);
        roundIs(x, 1, 0, 4, 1, 2, 5, 3);
        x.ballot(1, 0, x.trial(1, 0, 3), 50, 50, 0);
        x.ballot(1, 1, x.trial(1, 1, 3), 50, 60, 0);
        // Wins 2 2 2 1 1 0 of 0 4 2 1 5 3. 0-2, 4-3, 1-5 come first with differences 0 2 0;
        // 0-5, 4-2, 1-3 have 1 0 1: as much in all, but lesser squares.
        x.pair(0);
        roundIs(x, 2, 5, 0, 4, 2, 3, 1);
    }

    private static void firstOfThese() {
        due.sentence("the partner of the first SCHOOL in STANDINGS is as far ahead as can be, then that of the first of the others");
        MockTrials x = Due.with(6, 0);
        int[][][] pairs = {{{0, 1}, {2, 3}, {4, 5}}, {{0, 2}, {1, 4}, {3, 5}}, {{0, 3}, {1, 5}, {2, 4}},
            {{0, 4}, {1, 3}, {2, 5}}, {{0, 5}, {1, 2}, {3, 4}}, {{0, 1}, {2, 3}, {4, 5}}};
        for (int round = 0; round < pairs.length; round++) {
            x.pair(0);
            for (int t = 0; t < 3; t++) {
                int one = x.trial(round, t, 0);
                int other = x.trial(round, t, 1);
                due.is("the first of trial " + t + " of round " + round, Math.min(one, other), pairs[round][t][0]);
                due.is("its partner", Math.max(one, other), pairs[round][t][1]);
            }
        }
    }

    private static void sides() {
        due.sentence("the one that accused less often so far accuses, of alike the one that is ahead in STANDINGS");
        MockTrials x = Due.with(2, 20);
        for (int round = 0; round < 8; round++) {
            x.pair(0);
            roundIs(x, round, round % 2, 1 - round % 2);
            due.is("0 accused", x.of(0, 0, 5), round / 2 + 1);
            due.is("1 accused", x.of(1, 0, 5), (round + 1) / 2);
        }
        MockTrials y = Due.with(2, 20);
        y.pair(0);
        y.pair(0);
        y.ballot(0, 0, 0, 1, 2, 0);
        y.pair(0);
        // Both accused once; 1 is ahead by now.
        roundIs(y, 2, 1, 0);
    }

    private static void noJudges() {
        due.sentence("(as many as there are)");
        int[][] want = {{-1, -1}, {0, -1}, {0, 1}, {0, 1}};
        for (int judges = 0; judges < 4; judges++) {
            MockTrials x = Due.with(2, judges);
            x.pair(0);
            judgesAre(x, 0, 0, want[judges][0], want[judges][1]);
        }
        MockTrials y = Due.with(2, 20);
        for (int judge = 0; judge < 20; judge++) {
            y.kin(judge, judge % 2);
        }
        due.is("a round without judges", y.pair(0), 0);
        judgesAre(y, 0, 0, -1, -1);
        MockTrials z = Due.with(14, 13);
        z.pair(0);
        judgesAre(z, 0, 5, 10, 11);
        judgesAre(z, 0, 6, 12, -1);
    }

    private static void twoJudges() {
        due.sentence("the two lowest who are in no TRIAL of this ROUND yet");
        MockTrials x = Due.with(14, 20);
        x.pair(0);
        for (int t = 0; t < 7; t++) {
            judgesAre(x, 0, t, 2 * t, 2 * t + 1);
            due.is("no third judge", x.trial(0, t, 5), -1);
        }
        MockTrials y = Due.with(4, 4);
        y.kin(0, 1);
        y.kin(2, 0);
        y.pair(0);
        judgesAre(y, 0, 0, 1, 3);
        judgesAre(y, 0, 1, 0, 2);
    }

    private static void judgedInAnyRound() {
        due.sentence("have judged neither in any ROUND");
        MockTrials x = Due.with(2, 15);
        for (int round = 0; round < 8; round++) {
            x.pair(0);
            judgesAre(x, round, 0, 2 * round, round < 7 ? 2 * round + 1 : -1);
        }
        MockTrials y = Due.with(3, 1);
        for (int round = 0; round < 8; round++) {
            y.pair(0);
            judgesAre(y, round, 0, round == 0 ? 0 : -1, -1);
        }
        MockTrials z = Due.with(4, 1);
        z.pair(0);
        z.gone(0, true);
        z.gone(1, true);
        z.pair(0);
        judgesAre(z, 0, 1, -1, -1);
        judgesAre(z, 1, 0, 0, -1);
        z.gone(0, false);
        z.gone(3, true);
        z.pair(0);
        judgesAre(z, 2, 0, -1, -1);
    }

    private static void trialNumbers() {
        due.sentence("3, 4 its JUDGES (NONE); t -1: what 0 how many TRIALS, 1 the BYE (NONE). NONE without.");
        for (int n : Due.outside(0, 1)) {
            effect.asked("what " + n + " of a round", Weeks.BUSY, x -> x.trial(1, -1, n), -1);
            for (int what = 0; what < 5; what++) {
                int asked = what;
                effect.asked("trial of round " + n, Weeks.BUSY, x -> x.trial(n, 0, asked), -1);
                effect.asked("round " + n, Weeks.BUSY, x -> x.trial(n, -1, asked), -1);
            }
        }
        for (int n : Due.outside(-1, 1)) {
            for (int what = 0; what < 5; what++) {
                int asked = what;
                effect.asked("trial " + n, Weeks.BUSY, x -> x.trial(0, n, asked), -1);
            }
        }
        for (int n : Due.outside(0, 4)) {
            effect.asked("what " + n + " of a trial", Weeks.BUSY, x -> x.trial(1, 1, n), -1);
            effect.asked("what " + n + " of the first trial", Weeks.BUSY, x -> x.trial(0, 0, n), -1);
        }
        for (int what = 2; what < 5; what++) {
            int asked = what;
            effect.asked("what " + what + " of a round", Weeks.BUSY, x -> x.trial(0, -1, asked), -1);
        }
        int[] last = {4, 1, 1, 2, 3};
        for (int what = 0; what < 5; what++) {
            int asked = what;
            effect.asked("the last trial of the last round", Weeks.BUSY, x -> x.trial(1, 1, asked), last[what]);
        }
        effect.asked("no judge", Weeks.BUSY, x -> x.trial(1, 0, 3), -1);
        effect.asked("no judge", Weeks.BUSY, x -> x.trial(1, 0, 4), -1);
    }

    private static void byeOrNone() {
        due.sentence("1 the BYE (NONE)");
        effect.asked("a bye", Weeks.BUSY, x -> x.trial(0, -1, 1), 4);
        effect.asked("a bye of one that is gone now", Weeks.BUSY, x -> x.trial(1, -1, 1), 2);
        effect.asked("no bye", rounds(2, 1), x -> x.trial(0, -1, 1), -1);
        MockTrials x = Due.with(3, 0);
        x.pair(0);
        x.gone(0, true);
        x.pair(0);
        due.is("no bye behind one", x.trial(1, -1, 1), -1);
        due.is("one trial", x.trial(1, -1, 0), 1);
    }

    private static void trialsOfAFullWeek() {
        due.sentence("each has TRIALS in order: a SCHOOL that accuses, one that defends, a ROOM, 2 JUDGES at most; perhaps a BYE.");
        MockTrials x = new MockTrials();
        rounds(14, 8).on(x);
        for (int round = 0; round < 8; round++) {
            due.is("seven trials", x.trial(round, -1, 0), 7);
            due.is("the last one's room", x.trial(round, 6, 2), 6);
            for (int what = 0; what < 5; what++) {
                due.is("no eighth trial", x.trial(round, 7, what), -1);
            }
            int all = 0;
            for (int t = 0; t < 7; t++) {
                all |= 1 << x.trial(round, t, 0) | 1 << x.trial(round, t, 1);
            }
            due.is("each school once", all, (1 << 14) - 1);
        }
        due.is("no ninth round", x.trial(8, -1, 0), -1);
        due.is("no trial of it", x.trial(8, 0, 0), -1);
        MockTrials y = Due.with(14, 0);
        y.pair(0);
        for (int i = 0; i < 12; i++) {
            y.gone(i, true);
        }
        y.pair(0);
        roundIs(y, 1, 13, 12);
        for (int t = 1; t < 7; t++) {
            due.is("the shorter round has no trial " + t, y.trial(1, t, 0), -1);
        }
        due.is("the longer one has its own", y.trial(0, 6, 1), 13);
    }

    private static void metNumbers() {
        due.sentence("How often two SCHOOLS have met; NONE.");
        for (int n : Due.outside(0, 4)) {
            effect.asked("met(0, " + n + ")", Weeks.BUSY, x -> x.met(0, n), -1);
            effect.asked("met(" + n + ", 0)", Weeks.BUSY, x -> x.met(n, 0), -1);
            effect.asked("met(" + n + ", " + n + ")", Weeks.BUSY, x -> x.met(n, n), -1);
        }
        for (int n : Due.outside(0, 13)) {
            effect.asked("met(13, " + n + ")", rounds(14, 1), x -> x.met(13, n), -1);
            effect.asked("met(" + n + ", 13)", rounds(14, 1), x -> x.met(n, 13), -1);
        }
        effect.asked("the last two", rounds(14, 1), x -> x.met(13, 12), 1);
        effect.asked("turned round", rounds(14, 1), x -> x.met(12, 13), 1);
        effect.asked("the first and the last", rounds(14, 1), x -> x.met(0, 13), 0);
        effect.asked("one that is gone", Weeks.BUSY, x -> x.met(2, 3), 1);
        effect.asked("a bye meets nobody", rounds(3, 1), x -> x.met(0, 2), 0);
        effect.asked("itself", rounds(3, 3), x -> x.met(0, 0), 0);
        effect.asked("as often as can be", rounds(2, 8), x -> x.met(0, 1), 8);
    }
}
