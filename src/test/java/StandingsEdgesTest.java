/** Boundary cases of terms II and of promises 11 and 12: of, at. */
final class StandingsEdgesTest {
    private static final int NOTHING = -1000000;
    private static final Due due = new Due();
    private static final Effect effect = new Effect(due);
    /** 0 and 1 with judges 0 and 1, 2 and 3 with judges 2 and 3. */
    private static final Effect.Made SEATED = Weeks.then(Weeks.with(4, 4), x -> x.pair(0));

    public static void main(String[] args) {
        halves();
        wins();
        winsOfABye();
        margins();
        marginsOfMany();
        aheadByWins();
        aheadByHalves();
        aheadByWinsMet();
        winsOfGoneOnes();
        toldLast();
        aheadByMargins();
        aheadByNumber();
        ofNumbers();
        ofHours();
        placeOfGoneOnes();
        accusedAndByes();
        atNumbers();
        atHours();
        due.finish();
    }

    private static Effect.Made told(int... ballots) {
        return x -> {
            for (int i = 0; i < ballots.length; i += 3) {
                int judge = ballots[i];
                x.ballot(0, judge / 2, judge, ballots[i + 1], ballots[i + 2], 0);
            }
        };
    }

    /** WINS, HALVES, WINS of those met, MARGINS, as many as are given. */
    private static void ofIs(Effect.Made made, int school, int known, int... want) {
        for (int i = 0; i < want.length; i++) {
            int what = i;
            effect.asked("of(" + school + ", " + known + ", " + what + ")", made, x -> x.of(school, known, what), want[i]);
        }
    }

    private static void orderIs(Effect.Made made, int known, int... want) {
        for (int i = 0; i < want.length; i++) {
            int place = i;
            effect.asked("at(" + place + ", " + known + ")", made, x -> x.at(place, known), want[i]);
            effect.asked("of(" + want[i] + ", " + known + ", 4)", made, x -> x.of(want[place], known, 4), i);
        }
        effect.asked("behind the last place", made, x -> x.at(want.length, known), -1);
    }

    private static void halves() {
        due.sentence("A BALLOT gives 2 HALVES to the SCHOOL with more points, 1 to each of alike.");
        int[][] points = {{0, 0, 1, 1}, {1, 0, 2, 0}, {0, 1, 0, 2}, {100, 100, 1, 1}, {100, 99, 2, 0}, {99, 100, 0, 2}, {100, 0, 2, 0}};
        for (int[] p : points) {
            Effect.Made made = Weeks.then(SEATED, told(0, p[0], p[1]));
            effect.asked("halves of " + p[0] + " to " + p[1], made, x -> x.of(0, 0, 1), p[2]);
            effect.asked("halves of " + p[1] + " to " + p[0], made, x -> x.of(1, 0, 1), p[3]);
        }
    }

    private static void wins() {
        due.sentence("A TRIAL gives 2 WINS to the one with more HALVES, 1 to each of alike, none without BALLOTS");
        ofIs(SEATED, 0, 0, 0, 0, 0, 0);
        ofIs(SEATED, 1, 0, 0, 0, 0, 0);
        ofIs(Weeks.then(SEATED, told(0, 0, 0)), 0, 0, 1, 1);
        ofIs(Weeks.then(SEATED, told(0, 0, 0)), 1, 0, 1, 1);
        ofIs(Weeks.then(SEATED, told(0, 50, 51)), 0, 0, 0, 0);
        ofIs(Weeks.then(SEATED, told(0, 50, 51)), 1, 0, 2, 2);
        // One judge each: alike, though one has many more points.
        ofIs(Weeks.then(SEATED, told(0, 100, 0, 1, 50, 51)), 0, 0, 1, 2);
        ofIs(Weeks.then(SEATED, told(0, 100, 0, 1, 50, 51)), 1, 0, 1, 2);
        ofIs(Weeks.then(SEATED, told(0, 50, 50, 1, 50, 50)), 0, 0, 1, 2);
        ofIs(Weeks.then(SEATED, told(0, 50, 50, 1, 50, 51)), 0, 0, 0, 1);
        ofIs(Weeks.then(SEATED, told(0, 50, 50, 1, 50, 51)), 1, 0, 2, 3);
        ofIs(Weeks.then(SEATED, told(0, 0, 1, 1, 0, 1)), 1, 0, 2, 4);
        ofIs(Weeks.then(SEATED, told(0, 0, 1, 1, 0, 1)), 2, 0, 0, 0);
    }

    private static void winsOfABye() {
        due.sentence("a BYE gives 2 WINS.");
        Effect.Made late = Weeks.then(Weeks.with(3, 0), x -> x.pair(100000));
        for (int known : new int[] {0, 99999, 100000}) {
            ofIs(late, 2, known, 2, 0, 0, 0);
            ofIs(late, 0, known, 0, 0, 0, 0);
        }
        ofIs(Weeks.then(late, x -> x.gone(2, true)), 2, 0, 2);
        Effect.Made week = Weeks.then(Weeks.with(3, 0), x -> {
            for (int i = 0; i < 8; i++) {
                x.pair(0);
            }
        });
        effect.asked("all wins of eight byes", week, x -> x.of(0, 0, 0) + x.of(1, 0, 0) + x.of(2, 0, 0), 16);
    }

    private static void margins() {
        due.sentence("the difference of both points times 1000 / SPAN, cut, more for the one with more, less for the other.");
        int[][] alone = {{0, 0, 0}, {100, 100, 0}, {0, 1, -1000}, {1, 0, 1000}, {0, 100, -1000}, {100, 0, 1000}, {40, 70, -1000}};
        for (int[] p : alone) {
            Effect.Made made = Weeks.then(SEATED, told(0, p[0], p[1]));
            effect.asked("margin of " + p[0] + " to " + p[1], made, x -> x.of(0, 0, 3), p[2]);
            effect.asked("margin of " + p[1] + " to " + p[0], made, x -> x.of(1, 0, 3), -p[2]);
        }
    }

    /** Judge 0 tells two ballots: of 0 and 1, and of two others with 0 and as many points as the SPAN is to be. */
    private static Effect.Made spanned(int accusing, int defending, int span) {
        return Weeks.then(Weeks.with(6, 1), x -> {
            x.pair(0);
            x.gone(0, true);
            x.gone(1, true);
            x.pair(0);
            x.ballot(0, 0, 0, accusing, defending, 0);
            x.ballot(1, 0, 0, 0, span, 0);
        });
    }

    private static void marginsOfMany() {
        due.sentence("times 1000 / SPAN, cut");
        int[][] told = {{1, 0, 3, 333}, {0, 1, 3, -333}, {2, 0, 3, 666}, {0, 2, 3, -666}, {1, 0, 100, 10}, {0, 1, 100, -10},
            {99, 0, 100, 990}, {0, 6, 7, -857}, {6, 0, 7, 857}, {1, 0, 99, 10}, {0, 1, 99, -10}, {50, 50, 99, 0}, {3, 1, 7, 285},
            {1, 0, 64, 15}};
        for (int[] p : told) {
            Effect.Made made = spanned(p[0], p[1], p[2]);
            effect.asked("span", made, x -> x.span(0, 0), p[2]);
            effect.asked("margin of " + p[0] + " to " + p[1] + " of " + p[2], made, x -> x.of(0, 0, 3), p[3]);
            effect.asked("of the other", made, x -> x.of(1, 0, 3), -p[3]);
        }
        ofIs(Weeks.then(SEATED, told(0, 9, 0, 1, 70, 60)), 0, 0, 2, 4, 0, 2000);
        ofIs(Weeks.then(SEATED, told(0, 9, 0, 1, 60, 70)), 0, 0, 1, 2, 1, 0);
    }

    private static void aheadByWins() {
        due.sentence("STANDINGS of SCHOOLS that are there, as known at an HOUR: WINS");
        // 3 has 2 wins by 2 halves; 0 and 1 have 1 win each by 2 halves.
        Effect.Made made = Weeks.then(SEATED, told(0, 100, 0, 1, 0, 100, 2, 0, 1));
        orderIs(made, 0, 3, 0, 1, 2);
        // A bye's 2 wins without halves are ahead of 1 win by 2 halves.
        Effect.Made bye = Weeks.then(Weeks.with(3, 2), x -> {
            x.pair(0);
            x.ballot(0, 0, 0, 100, 0, 0);
            x.ballot(0, 0, 1, 0, 100, 0);
        });
        orderIs(bye, 0, 2, 0, 1);
    }

    private static void aheadByHalves() {
        due.sentence("of alike HALVES");
        // 1 and 3 have 2 wins each; 1 has 3 halves and a lesser margin than 3 with 2.
        Effect.Made made = Weeks.then(SEATED, told(0, 50, 50, 1, 0, 100, 3, 0, 100));
        orderIs(made, 0, 1, 3, 0, 2);
        Effect.Made other = Weeks.then(SEATED, told(1, 0, 100, 2, 50, 50, 3, 0, 100));
        orderIs(other, 0, 3, 1, 2, 0);
    }

    private static void aheadByWinsMet() {
        due.sentence("then the sum of WINS of all SCHOOLS met (each time; gone ones, too)");
        // 0 and 1 draw, 2 has the bye; then 1 meets 2 without a ballot.
        Effect.Made made = Weeks.then(Weeks.with(3, 2), x -> {
            x.pair(0);
            x.ballot(0, 0, 0, 50, 50, 0);
            x.gone(0, true);
            x.pair(0);
            x.gone(0, false);
        });
        ofIs(made, 0, 0, 1, 1, 1, 0);
        ofIs(made, 1, 0, 1, 1, 3, 0);
        orderIs(made, 0, 2, 1, 0);
        Effect.Made often = Weeks.then(Weeks.with(2, 2), x -> {
            for (int i = 0; i < 8; i++) {
                x.pair(0);
            }
            x.ballot(0, 0, 0, 9, 1, 0);
        });
        ofIs(often, 0, 0, 2, 2, 0, 1000);
        // Eight times the 2 wins of 0.
        ofIs(often, 1, 0, 0, 0, 16, -1000);
    }

    private static void winsOfGoneOnes() {
        due.sentence("(each time; gone ones, too)");
        Effect.Made made = Weeks.then(SEATED, told(1, 0, 100, 3, 100, 0));
        ofIs(made, 0, 0, 0, 0, 2, -1000);
        Effect.Made gone = Weeks.then(made, x -> x.gone(1, true));
        ofIs(gone, 0, 0, 0, 0, 2, -1000);
        ofIs(gone, 1, 0, 2, 2, 0, 1000);
        orderIs(gone, 0, 2, 0, 3);
        Effect.Made accuser = Weeks.then(made, x -> x.gone(2, true));
        ofIs(accuser, 3, 0, 0, 0, 2, -1000);
        orderIs(accuser, 0, 1, 0, 3);
    }

    private static void toldLast() {
        due.sentence("the BALLOT told last of a TRIAL and JUDGE counts, of those known by then");
        Effect.Made made = Weeks.then(SEATED, x -> {
            x.ballot(0, 0, 0, 90, 10, 20);
            x.ballot(0, 0, 0, 30, 70, 10);
            x.ballot(0, 0, 1, 50, 50, 15);
        });
        ofIs(made, 1, 9, 0, 0, 0, 0);
        ofIs(made, 1, 10, 2, 2, 0, 1000);
        ofIs(made, 1, 15, 2, 3, 0, 1000);
        // The earlier one is known by now, too, but the other was told last.
        ofIs(made, 1, 20, 2, 3, 0, 1000);
        ofIs(made, 0, 100000, 0, 1, 2, -1000);
        effect.asked("span as known at 20", made, x -> x.span(0, 20), 40);
        Effect.Made back = Weeks.then(made, x -> x.ballot(0, 0, 0, 90, 10, 12));
        ofIs(back, 1, 11, 2, 2, 0, 1000);
        ofIs(back, 1, 12, 0, 0, 2, -1000);
        ofIs(back, 1, 20, 0, 1, 2, -1000);
    }

    private static void aheadByMargins() {
        due.sentence("then the sum of MARGINS; the greater is ahead");
        // Judge 0 alone sits: 0 beats 1 by 1 of 3, then 2 beats 3 by 3 of 3; nobody meets a winner elsewhere.
        Effect.Made made = Weeks.then(Weeks.with(4, 1), x -> {
            x.pair(0);
            x.gone(0, true);
            x.gone(1, true);
            x.pair(0);
            x.gone(0, false);
            x.gone(1, false);
            x.ballot(0, 0, 0, 1, 0, 0);
            x.ballot(1, 0, 0, 0, 3, 0);
        });
        effect.asked("who accuses in round 1", made, x -> x.trial(1, 0, 0), 3);
        ofIs(made, 0, 0, 2, 2, 0, 333);
        ofIs(made, 1, 0, 0, 0, 2, -333);
        ofIs(made, 2, 0, 2, 2, 0, 1000);
        // Losers: what they met is 2 of one win, and 2 each time of two meetings.
        ofIs(made, 3, 0, 0, 0, 4, -1000);
        orderIs(made, 0, 2, 0, 3, 1);
        // 4 and 0 have won, by 3 and by 1 of 3; 5, 1 and 2 have nothing but a winner met, and margins 0, -333, -1000.
        orderIs(Weeks.then(spanned(1, 0, 3), x -> {
            x.gone(0, false);
            x.gone(1, false);
        }), 0, 4, 0, 5, 1, 2, 3);
    }

    private static void aheadByNumber() {
        due.sentence("the greater is ahead; then the lower number.");
        orderIs(Weeks.with(14, 0), 0, 0, 1, 2, 3, 4, 5, 6, 7, 8, 9, 10, 11, 12, 13);
        orderIs(Weeks.then(SEATED, told(0, 1, 0, 2, 100, 0)), 0, 0, 2, 1, 3);
        orderIs(Weeks.then(SEATED, told(0, 0, 1, 2, 100, 0)), 0, 1, 2, 0, 3);
        orderIs(Weeks.then(SEATED, told(0, 50, 50, 2, 50, 50)), 0, 0, 1, 2, 3);
    }

    private static void ofNumbers() {
        due.sentence("NOTHING (-1000000) without, HOURS that can't be.");
        for (int what = 0; what <= 6; what++) {
            int asked = what;
            for (int n : Due.outside(0, 4)) {
                effect.asked("of(" + n + ", 0, " + what + ")", Weeks.BUSY, x -> x.of(n, 0, asked), NOTHING);
            }
        }
        for (int n : Due.outside(0, 13)) {
            effect.asked("school " + n + " of 14", Weeks.with(14, 0), x -> x.of(n, 0, 0), NOTHING);
        }
        for (int n : Due.outside(0, 6)) {
            effect.asked("what " + n, Weeks.BUSY, x -> x.of(0, 0, n), NOTHING);
            effect.asked("what " + n + " of one that is gone", Weeks.BUSY, x -> x.of(2, 0, n), NOTHING);
        }
        // A bye, and 10 points more than 1 by judge 2, whose points are 10 to 90.
        int[] last = {4, 2, 0, 125, 0, 1, 1};
        for (int what = 0; what <= 6; what++) {
            int asked = what;
            effect.asked("what " + what + " of the last school", Weeks.BUSY, x -> x.of(4, 100000, asked), last[what]);
        }
        effect.asked("the last of 14", Weeks.with(14, 0), x -> x.of(13, 0, 4), 13);
    }

    private static void ofHours() {
        due.sentence("HOURS that can't be");
        for (int what = 0; what <= 6; what++) {
            int asked = what;
            for (int n : Due.outside(0, 100000)) {
                effect.asked("of(1, " + n + ", " + what + ")", Weeks.BUSY, x -> x.of(1, n, asked), NOTHING);
                effect.asked("of(2, " + n + ", " + what + ")", Weeks.BUSY, x -> x.of(2, n, asked), NOTHING);
            }
        }
        for (int hour : new int[] {1, 7, 100000}) {
            Effect.Made made = Weeks.then(SEATED, x -> x.ballot(0, 0, 0, 0, 1, hour));
            ofIs(made, 1, hour - 1, 0, 0, 0, 0, 1);
            ofIs(made, 1, hour, 2, 2, 0, 1000, 0);
            ofIs(made, 1, 100000, 2, 2, 0, 1000, 0);
        }
    }

    private static void placeOfGoneOnes() {
        due.sentence("4 its place in STANDINGS (0 the first; NONE of one that is gone)");
        effect.asked("one that is gone", Weeks.BUSY, x -> x.of(2, 0, 4), -1);
        effect.asked("there again", Weeks.then(Weeks.BUSY, x -> x.gone(2, false)), x -> x.of(2, 0, 4), 0);
        for (int i = 0; i < 14; i++) {
            int gone = i;
            Effect.Made made = Weeks.then(Weeks.with(14, 0), x -> x.gone(gone, true));
            effect.asked("place of " + gone, made, x -> x.of(gone, 0, 4), -1);
            effect.asked("the last place", made, x -> x.at(12, 0), gone == 13 ? 12 : 13);
            effect.asked("place of the last one", made, x -> x.of(13, 0, 4), gone == 13 ? -1 : 12);
            effect.asked("no place behind it", made, x -> x.at(13, 0), -1);
        }
        Effect.Made none = Weeks.then(Weeks.with(1, 0), x -> x.gone(0, true));
        effect.asked("the only one", none, x -> x.of(0, 0, 4), -1);
        effect.asked("no place at all", none, x -> x.at(0, 0), -1);
        effect.asked("its other numbers are told", none, x -> x.of(0, 0, 0), 0);
    }

    private static void accusedAndByes() {
        due.sentence("5 how often it accused, 6 its BYES.");
        Effect.Made week = Weeks.then(Weeks.with(2, 0), x -> {
            for (int i = 0; i < 7; i++) {
                x.pair(5);
            }
        });
        effect.asked("0 accused", week, x -> x.of(0, 0, 5), 4);
        effect.asked("1 accused", week, x -> x.of(1, 0, 5), 3);
        effect.asked("no byes", week, x -> x.of(1, 0, 6), 0);
        effect.asked("a gone one's bye", Weeks.BUSY, x -> x.of(2, 0, 6), 1);
        effect.asked("a gone one accused", Weeks.BUSY, x -> x.of(2, 0, 5), 1);
        effect.asked("byes at any hour", Weeks.BUSY, x -> x.of(4, 0, 6), 1);
    }

    private static void atNumbers() {
        due.sentence("The SCHOOL at a place of STANDINGS as known at an HOUR; NONE.");
        for (int n : Due.outside(0, 3)) {
            effect.asked("at(" + n + ") of 4", Weeks.BUSY, x -> x.at(n, 0), -1);
        }
        for (int n : Due.outside(0, 13)) {
            effect.asked("at(" + n + ") of 14", Weeks.with(14, 0), x -> x.at(n, 0), -1);
        }
        effect.asked("of none", Weeks.NEW, x -> x.at(0, 0), -1);
        effect.asked("of one", Weeks.with(1, 0), x -> x.at(0, 0), 0);
        effect.asked("behind one", Weeks.with(1, 0), x -> x.at(1, 0), -1);
    }

    private static void atHours() {
        due.sentence("The SCHOOL at a place of STANDINGS as known at an HOUR");
        for (int n : Due.outside(0, 100000)) {
            effect.asked("at(0, " + n + ")", Weeks.BUSY, x -> x.at(0, n), -1);
        }
        for (int hour : new int[] {1, 7, 100000}) {
            Effect.Made made = Weeks.then(SEATED, x -> x.ballot(0, 1, 2, 0, 1, hour));
            orderIs(made, hour - 1, 0, 1, 2, 3);
            orderIs(made, hour, 3, 2, 0, 1);
            effect.asked("at the last hour", made, x -> x.at(0, 100000), 3);
        }
    }
}
