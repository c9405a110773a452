import java.util.ArrayList;
import java.util.List;

/**
 * Looks at one call from all sides: what it answers, what status() says behind it, and what it changed.
 * For the last of these two objects are made alike, one of them gets the call too, and then both must
 * answer alike whatever can be asked.
 */
final class Effect {
    /** Calls that bring a new object where it is wanted: 420 at most, so that a group below has room. */
    interface Made {
        void on(MockTrials x);
    }

    interface Call {
        int on(MockTrials x);
    }

    /** 90 calls at most: nothing is promised of an object behind its 512th call. */
    private interface Group {
        void ask(MockTrials x, List<String> answers);
    }

    private static final int[] HOURS = {0, 2, 100000};
    private static final String FAULT = "fault() = ";
    private static final int[] SOME_FACTS = {0, 1, 31};
    private static final List<Group> GROUPS = groups();

    private final Due due;

    Effect(Due due) {
        this.due = due;
    }

    /** The call is REFUSED: with this code, status() tells it, and nothing else changes. */
    void refused(String name, Made made, Call call, int code) {
        MockTrials x = new MockTrials();
        made.on(x);
        due.is(name, call.on(x), code);
        due.is("status() behind " + name, x.status(), code);
        MockTrials y = new MockTrials();
        made.on(y);
        refuseByOther(y, code);
        call.on(y);
        due.is("status() behind " + name + ", behind another code", y.status(), code);
        same(name, made, call);
    }

    /** The call is of those that can be REFUSED, but it isn't: status() forgets an earlier code. */
    void taken(String name, Made made, Call call, int want) {
        MockTrials x = new MockTrials();
        made.on(x);
        refuseByOther(x, 0);
        due.is(name, call.on(x), want);
        due.is("status() behind " + name, x.status(), 0);
    }

    /** The call can't be REFUSED: it answers, and changes nothing at all. */
    void asked(String name, Made made, Call call, int want) {
        MockTrials x = new MockTrials();
        made.on(x);
        due.is(name, call.on(x), want);
        statusStays(name, made, call);
        same(name, made, call);
    }

    /** The call is not of those that can be REFUSED: status() tells what it told ahead of it. */
    void statusStays(String name, Made made, Call call) {
        MockTrials x = new MockTrials();
        made.on(x);
        int before = x.status();
        call.on(x);
        due.is("status() behind " + name, x.status(), before);
        refuseByOther(x, 0);
        call.on(x);
        due.is("status() behind " + name + ", behind a code", x.status(), -2);
    }

    /** The call changes nothing but what status() says. */
    void same(String name, Made made, Call call) {
        alike(name, made, Weeks.then(made, call::on));
    }

    /** Both ways lead to the same, but for what status() says. */
    void alike(String name, Made one, Made other) {
        compare(name, answers(one), answers(other));
    }

    /** Both ways lead to the same, but for what status() and fault() say. */
    void alikeButFault(String name, Made one, Made other) {
        List<String> a = answers(one);
        List<String> b = answers(other);
        a.removeIf(answer -> answer.startsWith(FAULT));
        b.removeIf(answer -> answer.startsWith(FAULT));
        compare(name, a, b);
    }

    private void compare(String name, List<String> a, List<String> b) {
        due.is("answers behind " + name, b.size(), a.size());
        for (int i = 0; i < Math.min(a.size(), b.size()); i++) {
            if (!a.get(i).equals(b.get(i))) {
                due.tell(name + " changed " + a.get(i) + " to " + b.get(i));
                return;
            }
        }
    }

    /** The ways lead apart: what a test of alike() would rest on if nothing were ever seen. */
    void differ(String name, Made one, Made other) {
        due.is(name + " is seen", answers(one).equals(answers(other)) ? 0 : 1, 1);
    }

    private static void refuseByOther(MockTrials x, int code) {
        if (code == -2) {
            x.rooms(0);
        } else {
            x.gone(-1, true);
        }
    }

    private static List<String> answers(Made made) {
        List<String> all = new ArrayList<>();
        for (Group group : GROUPS) {
            MockTrials x = new MockTrials();
            made.on(x);
            group.ask(x, all);
        }
        return all;
    }

    private static List<Group> groups() {
        List<Group> all = new ArrayList<>();
        all.add(Effect::askCounts);
        all.add(Effect::askNextNumbers);
        all.add(Effect::askQuestions);
        all.add(Effect::askText);
        for (int i = 0; i < 8; i++) {
            int round = i;
            all.add((x, answers) -> askTrials(x, round, answers));
            all.add((x, answers) -> askNextRound(x, round, answers));
        }
        for (int known : HOURS) {
            askKnown(all, known);
        }
        for (int i = 0; i < 4; i++) {
            int part = i;
            all.add((x, answers) -> askMet(x, part, answers));
            all.add((x, answers) -> askKin(x, part, answers));
            all.add((x, answers) -> askObjections(x, part, answers));
        }
        return all;
    }

    private static void askKnown(List<Group> all, int known) {
        for (int i = 0; i < 7; i++) {
            int what = i;
            all.add((x, answers) -> {
                for (int school = 0; school < 14; school++) {
                    answers.add("of(" + school + ", " + known + ", " + what + ") = " + x.of(school, known, what));
                }
            });
        }
        all.add((x, answers) -> {
            for (int n = 0; n < 20; n++) {
                answers.add("at(" + n + ", " + known + ") = " + x.at(n, known));
                answers.add("span(" + n + ", " + known + ") = " + x.span(n, known));
            }
        });
        for (int i = 0; i < 8; i++) {
            int round = i;
            all.add((x, answers) -> askBallots(x, round, known, answers));
        }
    }

    private static void askCounts(MockTrials x, List<String> answers) {
        for (int what = 0; what < 11; what++) {
            answers.add("count(" + what + ") = " + x.count(what));
        }
        answers.add(FAULT + x.fault());
        for (int witness = 0; witness < 10; witness++) {
            answers.add("implied(" + witness + ") = " + x.implied(witness));
        }
    }

    private static void askNextNumbers(MockTrials x, List<String> answers) {
        answers.add("rooms(7) = " + x.rooms(7));
        answers.add("school() = " + x.school());
        answers.add("judge() = " + x.judge());
        answers.add("witness(0) = " + x.witness(0));
        answers.add("implies(0, 0) = " + x.implies(0, 0));
        answers.add("feed(0, 0, 0, 0, 0) = " + x.feed(0, 0, 0, 0, 0));
    }

    private static void askQuestions(MockTrials x, List<String> answers) {
        for (int witness = 0; witness < 10; witness++) {
            for (int fact : SOME_FACTS) {
                answers.add("ask(" + witness + ", " + fact + ") = " + x.ask(witness, fact));
            }
        }
    }

    /** What the bytes on the tape are can be seen by what they become alone. */
    private static void askText(MockTrials x, List<String> answers) {
        answers.add("rules() = " + x.rules());
        answers.add("fault() behind it = " + x.fault());
        x.witness(1);
        for (int kind = 0; kind < 4; kind++) {
            for (int fact : SOME_FACTS) {
                answers.add("object(" + kind + ", 0, " + fact + ") behind rules() = " + x.object(kind, 0, fact, false));
            }
        }
    }

    private static void askTrials(MockTrials x, int round, List<String> answers) {
        for (int t = -1; t < 8; t++) {
            for (int what = 0; what < 5; what++) {
                answers.add("trial(" + round + ", " + t + ", " + what + ") = " + x.trial(round, t, what));
            }
        }
    }

    /** KIN, ROOMS and who has judged whom show in the next ROUND alone. */
    private static void askNextRound(MockTrials x, int round, List<String> answers) {
        int made = x.pair(100000);
        answers.add("pair(100000) = " + made);
        if (made == round) {
            askTrials(x, round, answers);
        }
    }

    private static void askBallots(MockTrials x, int round, int known, List<String> answers) {
        for (int t = 0; t < 7; t++) {
            for (int what = 3; what < 5; what++) {
                int judge = x.trial(round, t, what);
                for (int side = 0; side < 2; side++) {
                    answers.add("counts(" + round + ", " + t + ", " + judge + ", " + side + ", " + known + ") = "
                        + x.counts(round, t, judge, side, known));
                }
            }
        }
    }

    private static void askMet(MockTrials x, int part, List<String> answers) {
        for (int a = part; a < 14; a += 4) {
            for (int b = 0; b < 14; b++) {
                answers.add("met(" + a + ", " + b + ") = " + x.met(a, b));
            }
        }
    }

    private static void askKin(MockTrials x, int part, List<String> answers) {
        for (int judge = part; judge < 20; judge += 4) {
            for (int school = 0; school < 14; school++) {
                answers.add("kin(" + judge + ", " + school + ") = " + x.kin(judge, school));
            }
        }
    }

    private static void askObjections(MockTrials x, int kind, List<String> answers) {
        for (int witness = 0; witness < 10; witness++) {
            for (int fact : SOME_FACTS) {
                for (int cross = 0; cross < 2; cross++) {
                    answers.add("object(" + kind + ", " + witness + ", " + fact + ", " + cross + ") = "
                        + x.object(kind, witness, fact, cross == 1));
                }
            }
        }
    }
}
