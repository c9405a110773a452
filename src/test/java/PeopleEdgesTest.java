/** Boundary cases of terms I and of promises 1 to 6: a new object, school, gone, judge, kin, rooms. */
final class PeopleEdgesTest {
    private static final Due due = new Due();
    private static final Effect effect = new Effect(due);

    public static void main(String[] args) {
        newObject();
        fourteenSchools();
        schoolNumbers();
        goneNumbers();
        goneTwice();
        twentyJudges();
        judgeNumbers();
        sixtyKin();
        kinToldAgain();
        kinNumbers();
        kinCodes();
        kinOfLastNumbers();
        roomNumbers();
        sevenRoomsAtFirst();
        due.finish();
    }

    private static void newObject() {
        due.sentence("No SCHOOLS, JUDGES, ROUNDS.");
        for (int i = 0; i <= 10; i++) {
            int what = i;
            effect.asked("count(" + what + ")", Weeks.NEW, x -> x.count(what), 0);
        }
        effect.asked("status()", Weeks.NEW, x -> x.status(), 0);
        effect.asked("fault()", Weeks.NEW, x -> x.fault(), -1);
        effect.asked("at(0, 0)", Weeks.NEW, x -> x.at(0, 0), -1);
        effect.asked("span(0, 0)", Weeks.NEW, x -> x.span(0, 0), -1);
        effect.asked("trial(0, -1, 0)", Weeks.NEW, x -> x.trial(0, -1, 0), -1);
        effect.asked("trial(0, 0, 0)", Weeks.NEW, x -> x.trial(0, 0, 0), -1);
        effect.asked("met(0, 1)", Weeks.NEW, x -> x.met(0, 1), -1);
        effect.asked("met(0, 0)", Weeks.NEW, x -> x.met(0, 0), -1);
        effect.asked("of(0, 0, 0)", Weeks.NEW, x -> x.of(0, 0, 0), -1000000);
        effect.asked("counts(0, 0, 0, 0, 0)", Weeks.NEW, x -> x.counts(0, 0, 0, 0, 0), -1);
        effect.refused("gone(0)", Weeks.NEW, x -> x.gone(0, true), -2);
        effect.refused("kin(0, 0)", Weeks.NEW, x -> x.kin(0, 0), -2);
        effect.refused("pair(0)", Weeks.NEW, x -> x.pair(0), -3);
        effect.refused("ballot(0, 0, 0, 0, 0, 0)", Weeks.NEW, x -> x.ballot(0, 0, 0, 0, 0, 0), -2);
    }

    private static void fourteenSchools() {
        due.sentence("SCHOOLS 0 .. 13 (14 at most), there or gone.");
        for (int i = 0; i < 14; i++) {
            effect.taken("school " + i, Weeks.with(i, 0), x -> x.school(), i);
        }
        effect.refused("school 14", Weeks.with(14, 0), x -> x.school(), -5);
        effect.refused("school 14, with one gone", Weeks.then(Weeks.with(14, 0), x -> x.gone(13, true)), x -> x.school(), -5);
        effect.taken("school 13, with all gone", x -> {
            Due.people(x, 13, 0);
            for (int i = 0; i < 13; i++) {
                x.gone(i, true);
            }
        }, x -> x.school(), 13);
        MockTrials x = Due.with(14, 0);
        due.is("14 of them", x.count(0), 14);
        due.is("all are there", x.count(1), 14);
    }

    private static void schoolNumbers() {
        due.sentence("A SCHOOL: its number. -5.");
        MockTrials x = Due.with(14, 0);
        for (int i = 0; i < 3; i++) {
            due.is("refused again", x.school(), -5);
            due.is("status()", x.status(), -5);
            due.is("still 14", x.count(0), 14);
        }
        MockTrials y = new MockTrials();
        y.judge();
        y.judge();
        due.is("counted apart from judges", y.school(), 0);
    }

    private static void goneNumbers() {
        due.sentence("A SCHOOL is gone, or there again: 0. -2.");
        for (int i = 0; i < 2; i++) {
            boolean is = i == 0;
            for (int many : new int[] {1, 5, 14}) {
                effect.taken("the first of " + many, Weeks.with(many, 0), x -> x.gone(0, is), 0);
                effect.taken("the last of " + many, Weeks.with(many, 0), x -> x.gone(many - 1, is), 0);
                for (int n : Due.outside(0, many - 1)) {
                    effect.refused("gone(" + n + ") of " + many, Weeks.with(many, 0), x -> x.gone(n, is), -2);
                }
            }
            effect.refused("gone(5)", Weeks.BUSY, x -> x.gone(5, is), -2);
            effect.refused("gone(-1)", Weeks.BUSY, x -> x.gone(-1, is), -2);
        }
        MockTrials x = Due.with(14, 0);
        x.gone(13, true);
        due.is("13 are there", x.count(1), 13);
        due.is("the last has no place", x.of(13, 0, 4), -1);
        x.gone(0, true);
        due.is("12 are there", x.count(1), 12);
        due.is("the first has no place", x.of(0, 0, 4), -1);
        due.is("the second is ahead", x.at(0, 0), 1);
    }

    private static void goneTwice() {
        due.sentence("A SCHOOL is gone, or there again: 0.");
        Effect.Made gone = Weeks.then(Weeks.with(3, 0), x -> x.gone(1, true));
        effect.taken("gone again", gone, x -> x.gone(1, true), 0);
        effect.same("gone again", gone, x -> x.gone(1, true));
        effect.taken("there all the time", Weeks.with(3, 0), x -> x.gone(1, false), 0);
        effect.same("there all the time", Weeks.with(3, 0), x -> x.gone(1, false));
        effect.alike("gone and there again", Weeks.with(3, 0), Weeks.then(gone, x -> x.gone(1, false)));
    }

    private static void twentyJudges() {
        due.sentence("JUDGES 0 .. 19 (20 at most).");
        for (int i = 0; i < 20; i++) {
            effect.taken("judge " + i, Weeks.with(0, i), x -> x.judge(), i);
        }
        effect.refused("judge 20", Weeks.with(0, 20), x -> x.judge(), -5);
        due.is("20 of them", Due.with(0, 20).count(2), 20);
    }

    private static void judgeNumbers() {
        due.sentence("A JUDGE: the number. -5.");
        MockTrials x = Due.with(3, 20);
        for (int i = 0; i < 3; i++) {
            due.is("refused again", x.judge(), -5);
            due.is("status()", x.status(), -5);
            due.is("still 20", x.count(2), 20);
        }
        due.is("schools have room", x.school(), 3);
    }

    /** 5 judges, 14 schools, and as many KIN of the 70 that there could be; the last is 4 and 13. */
    private static Effect.Made kin(int many) {
        return x -> {
            Due.people(x, 14, 5);
            for (int i = 0; i < many; i++) {
                x.kin(i / 14, i % 14);
            }
        };
    }

    private static void sixtyKin() {
        due.sentence("KIN: a JUDGE and a SCHOOL (60 at most).");
        effect.taken("the first", kin(0), x -> x.kin(4, 13), 1);
        effect.taken("the 59th", kin(58), x -> x.kin(4, 13), 59);
        effect.taken("the 60th", kin(59), x -> x.kin(4, 13), 60);
        effect.refused("the 61st", kin(60), x -> x.kin(4, 13), -5);
        effect.refused("the 61st, another one", kin(60), x -> x.kin(4, 4), -5);
        MockTrials x = new MockTrials();
        kin(60).on(x);
        due.is("60 of them", x.count(3), 60);
    }

    private static void kinToldAgain() {
        due.sentence("how many KIN there are (told again: as many).");
        effect.taken("the only one again", kin(1), x -> x.kin(0, 0), 1);
        effect.same("the only one again", kin(1), x -> x.kin(0, 0));
        effect.taken("the first again, with no room", kin(60), x -> x.kin(0, 0), 60);
        effect.taken("the last again, with no room", kin(60), x -> x.kin(4, 3), 60);
        effect.same("told again, with no room", kin(60), x -> x.kin(4, 3));
        effect.taken("the first again, ahead of the last", kin(59), x -> x.kin(0, 0), 59);
        Effect.Made turned = Weeks.then(Weeks.with(2, 2), x -> x.kin(0, 1));
        effect.taken("turned round it is another", turned, x -> x.kin(1, 0), 2);
        effect.taken("of a gone school", Weeks.then(Weeks.with(1, 1), x -> x.gone(0, true)), x -> x.kin(0, 0), 1);
    }

    private static void kinNumbers() {
        due.sentence("A JUDGE is KIN to a SCHOOL");
        for (int n : Due.outside(0, 2)) {
            effect.refused("judge " + n + " of 3", Weeks.with(5, 3), x -> x.kin(n, 0), -2);
            effect.refused("both " + n, Weeks.with(3, 3), x -> x.kin(n, n), -2);
        }
        for (int n : Due.outside(0, 4)) {
            effect.refused("school " + n + " of 5", Weeks.with(5, 3), x -> x.kin(0, n), -2);
        }
        for (int n : Due.outside(0, 19)) {
            effect.refused("judge " + n + " of 20", Weeks.with(14, 20), x -> x.kin(n, 13), -2);
        }
        for (int n : Due.outside(0, 13)) {
            effect.refused("school " + n + " of 14", Weeks.with(14, 20), x -> x.kin(19, n), -2);
        }
        effect.taken("a judge's number above all schools", Weeks.with(14, 20), x -> x.kin(19, 13), 1);
        effect.refused("a school's number above all judges", Weeks.with(14, 3), x -> x.kin(13, 2), -2);
    }

    private static void kinCodes() {
        due.sentence("(told again: as many). -2; -5.");
        for (int n : Due.outside(0, 4)) {
            effect.refused("no such judge ahead of no room", kin(60), x -> x.kin(n, 13), -2);
        }
        for (int n : Due.outside(0, 13)) {
            effect.refused("no such school ahead of no room", kin(60), x -> x.kin(4, n), -2);
        }
        MockTrials x = new MockTrials();
        kin(60).on(x);
        x.kin(4, 13);
        due.is("refused", x.status(), -5);
        x.kin(0, 0);
        due.is("told again is not", x.status(), 0);
    }

    private static void kinOfLastNumbers() {
        due.sentence("kin to neither");
        for (int i = 0; i < 2; i++) {
            int school = 12 + i;
            MockTrials x = Due.with(14, 20);
            for (int gone = 0; gone < 12; gone++) {
                x.gone(gone, true);
            }
            for (int judge = 0; judge < 18; judge++) {
                x.kin(judge, 12 + judge % 2);
            }
            x.kin(19, school);
            x.pair(0);
            due.is("judge 18 is kin to none", x.trial(0, 0, 3), 18);
            due.is("judge 19 is kin to " + school, x.trial(0, 0, 4), -1);
        }
        MockTrials y = Due.with(14, 20);
        y.kin(0, 13);
        y.pair(0);
        due.is("kin to one in another trial", y.trial(0, 0, 3), 0);
    }

    private static void roomNumbers() {
        due.sentence("ROOMS: what they were; -1.");
        for (int n : Due.outside(1, 7)) {
            effect.refused("rooms(" + n + ")", Weeks.NEW, x -> x.rooms(n), -1);
            effect.refused("rooms(" + n + ") behind 3", Weeks.then(Weeks.with(8, 0), x -> x.rooms(3)), x -> x.rooms(n), -1);
        }
        for (int was = 1; was <= 7; was++) {
            int before = was;
            Effect.Made made = x -> x.rooms(before);
            effect.taken("rooms(1) behind " + was, made, x -> x.rooms(1), was);
            effect.taken("rooms(7) behind " + was, made, x -> x.rooms(7), was);
            effect.taken("as many again, " + was, made, x -> x.rooms(before), was);
            effect.same("as many again, " + was, made, x -> x.rooms(before));
        }
        MockTrials x = new MockTrials();
        x.rooms(3);
        due.is("a refused one", x.rooms(8), -1);
        due.is("changed nothing", x.rooms(4), 3);
    }

    private static void sevenRoomsAtFirst() {
        due.sentence("ROOMS 1 .. 7 (7 at first).");
        effect.taken("rooms(1)", Weeks.NEW, x -> x.rooms(1), 7);
        effect.taken("rooms(7)", Weeks.NEW, x -> x.rooms(7), 7);
        effect.taken("seven trials at first", Weeks.with(14, 0), x -> x.pair(0), 0);
    }
}
