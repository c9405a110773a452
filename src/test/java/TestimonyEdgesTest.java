/** Boundary cases of terms IV and of promises 15 to 17, 22 and 23: witness, implies, implied, object, ask. */
final class TestimonyEdgesTest {
    private static final int ALL = -1;
    private static final int FACT_31 = Integer.MIN_VALUE;
    private static final Due due = new Due();
    private static final Effect effect = new Effect(due);

    public static void main(String[] args) {
        tenWitnesses();
        witnessRefused();
        statedBits();
        fortyImplications();
        impliesNumbers();
        impliesCodes();
        someFacts();
        againAndAgain();
        impliedNumbers();
        objectNumbers();
        objectPutsNoQuestion();
        sustainedOrNot();
        askNumbers();
        askCodes();
        howOftenAsked();
        askedEarlier();
        due.finish();
    }

    private static Effect.Made witnesses(int many) {
        return x -> {
            for (int i = 0; i < many; i++) {
                x.witness(1 << i);
            }
        };
    }

    private static Effect.Made rules(String text) {
        return x -> Due.rules(x, text);
    }

    private static void tenWitnesses() {
        due.sentence("WITNESSES 0 .. 9 (10 at most) have STATED facts");
        for (int i = 0; i < 10; i++) {
            effect.taken("witness " + i, witnesses(i), x -> x.witness(0), i);
        }
        effect.refused("witness 10", witnesses(10), x -> x.witness(0), -5);
        effect.refused("witness 10, with all facts", witnesses(10), x -> x.witness(ALL), -5);
        effect.asked("10 of them", witnesses(10), x -> x.count(6), 10);
        effect.asked("the last one's facts", witnesses(10), x -> x.implied(9), 1 << 9);
    }

    private static void witnessRefused() {
        due.sentence("A WITNESS: the number. -5.");
        MockTrials x = new MockTrials();
        witnesses(10).on(x);
        for (int i = 0; i < 3; i++) {
            due.is("refused again", x.witness(ALL), -5);
            due.is("status()", x.status(), -5);
            due.is("still 10", x.count(6), 10);
        }
    }

    private static void statedBits() {
        due.sentence("(32 bits: facts 0 .. 31)");
        for (int bits : new int[] {0, 1, ALL, FACT_31, Integer.MAX_VALUE, FACT_31 | 1}) {
            effect.taken("stated " + bits, Weeks.NEW, x -> x.witness(bits), 0);
            Effect.Made made = Weeks.then(x -> x.witness(bits), rules("sustain leading if stated; sustain hearsay if implied"));
            effect.asked("implied of " + bits, made, x -> x.implied(0), bits);
            for (int i = 0; i < 32; i++) {
                int fact = i;
                effect.asked("stated " + fact, made, x -> x.object(0, 0, fact, false), bits >>> fact & 1);
                effect.asked("implied " + fact, made, x -> x.object(1, 0, fact, false), bits >>> fact & 1);
            }
        }
    }

    private static Effect.Made implications(int many) {
        return Weeks.then(x -> x.witness(1), x -> {
            for (int i = 0; i < many; i++) {
                x.implies(2, i % 31);
            }
        });
    }

    private static void fortyImplications() {
        due.sentence("IMPLICATIONS, 40 at most");
        effect.taken("the first", implications(0), x -> x.implies(1, 31), 1);
        effect.taken("the 39th", implications(38), x -> x.implies(1, 31), 39);
        effect.taken("the 40th", implications(39), x -> x.implies(1, 31), 40);
        effect.refused("the 41st", implications(40), x -> x.implies(1, 31), -5);
        effect.asked("the 40th leads on", Weeks.then(implications(39), x -> x.implies(1, 31)), x -> x.implied(0), FACT_31 | 1);
        effect.asked("the 41st does not", Weeks.then(implications(40), x -> x.implies(1, 31)), x -> x.implied(0), 1);
        effect.asked("40 of them", implications(40), x -> x.count(7), 40);
    }

    private static void impliesNumbers() {
        due.sentence("An IMPLICATION: how many there are. -1 a fact not 0 .. 31; -5.");
        for (int n : Due.outside(0, 31)) {
            effect.refused("implies(1, " + n + ")", implications(1), x -> x.implies(1, n), -1);
            effect.refused("implies(0, " + n + ")", Weeks.BUSY, x -> x.implies(0, n), -1);
        }
        for (int n : new int[] {64, -32, -31, 1 << 30, 33 + 256}) {
            effect.refused("implies(1, " + n + ")", implications(1), x -> x.implies(1, n), -1);
        }
        for (int i = 0; i < 32; i++) {
            int fact = i;
            effect.taken("implies(1, " + fact + ")", implications(1), x -> x.implies(1, fact), 2);
            effect.asked("it follows", Weeks.then(implications(0), x -> x.implies(1, fact)), x -> x.implied(0), 1 | 1 << fact);
        }
        effect.taken("of all facts", Weeks.NEW, x -> x.implies(ALL, 0), 1);
        effect.taken("of none", Weeks.NEW, x -> x.implies(0, 31), 1);
    }

    private static void impliesCodes() {
        due.sentence("-1 a fact not 0 .. 31; -5.");
        for (int n : Due.outside(0, 31)) {
            effect.refused("a fact ahead of no room", implications(40), x -> x.implies(1, n), -1);
        }
    }

    private static int impliedOf(int stated, int... implications) {
        MockTrials x = new MockTrials();
        x.witness(stated);
        for (int i = 0; i < implications.length; i += 2) {
            x.implies(implications[i], implications[i + 1]);
        }
        return x.implied(0);
    }

    private static void someFacts() {
        due.sentence("of some facts (bits) one more follows");
        due.is("of none, always", impliedOf(0, 0, 0), 1);
        due.is("of none, the last", impliedOf(0, 0, 31), FACT_31);
        due.is("of all, with all", impliedOf(ALL, ALL, 0), ALL);
        due.is("of all but one", impliedOf(ALL & ~1, ALL, 0), ALL & ~1);
        due.is("of all others, with them", impliedOf(ALL & ~1, ALL & ~1, 0), ALL);
        due.is("of the last", impliedOf(FACT_31, FACT_31, 0), FACT_31 | 1);
        due.is("of the last, without it", impliedOf(Integer.MAX_VALUE & ~1, FACT_31, 0), Integer.MAX_VALUE & ~1);
        due.is("of the first and the last, with both", impliedOf(FACT_31 | 1, FACT_31 | 1, 5), FACT_31 | 33);
        due.is("of both, with the first", impliedOf(1, FACT_31 | 1, 5), 1);
        due.is("of both, with the last", impliedOf(FACT_31, FACT_31 | 1, 5), FACT_31);
        due.is("of itself", impliedOf(0, 8, 3), 0);
        due.is("what is known already", impliedOf(9, 1, 3), 9);
    }

    private static void againAndAgain() {
        due.sentence("IMPLIED: what is STATED, and whatever follows of it, again and again.");
        MockTrials x = new MockTrials();
        // Told against its course, so that each look at all of them in order finds but one more.
        for (int fact = 31; fact >= 1; fact--) {
            x.implies(1 << fact - 1, fact);
        }
        x.witness(0);
        x.witness(1);
        x.witness(1 << 30);
        due.is("nothing of nothing", x.implied(0), 0);
        due.is("all of the first", x.implied(1), ALL);
        due.is("two of the last but one", x.implied(2), FACT_31 | 1 << 30);
        due.is("the first of none", x.implies(0, 0), 32);
        due.is("all 32 of nothing", x.implied(0), ALL);
        MockTrials ring = new MockTrials();
        for (int fact = 0; fact < 32; fact++) {
            ring.implies(1 << fact, (fact + 31) % 32);
        }
        for (int i = 0; i < 10; i++) {
            ring.witness(1 << i * 31 / 9);
            due.is("all around from " + i, ring.implied(i), ALL);
        }
        MockTrials y = new MockTrials();
        y.implies(6, 3);
        y.implies(1, 2);
        y.implies(1, 1);
        y.witness(1);
        due.is("of two that follow", y.implied(0), 15);
        y.implies(8, 31);
        due.is("told behind the witness", y.implied(0), FACT_31 | 15);
    }

    private static void impliedNumbers() {
        due.sentence("IMPLIED facts of a WITNESS, as bits (0 for no WITNESS).");
        Effect.Made always = Weeks.then(x -> x.implies(0, 4), witnesses(2));
        for (int n : Due.outside(0, 1)) {
            effect.asked("implied(" + n + ") of 2", always, x -> x.implied(n), 0);
        }
        for (int n : Due.outside(0, 9)) {
            effect.asked("implied(" + n + ") of 10", witnesses(10), x -> x.implied(n), 0);
        }
        effect.asked("of a new object", Weeks.NEW, x -> x.implied(0), 0);
        effect.asked("the first", always, x -> x.implied(0), 17);
        effect.asked("the last", always, x -> x.implied(1), 18);
    }

    private static void objectNumbers() {
        due.sentence("NONE: a number that can't be.");
        Effect.Made made = Weeks.then(witnesses(2), rules("sustain leading; sustain hearsay; sustain stretch; sustain relevance"));
        for (int i = 0; i < 2; i++) {
            boolean cross = i == 1;
            for (int n : Due.outside(0, 3)) {
                effect.asked("kind " + n, made, x -> x.object(n, 0, 0, cross), -1);
            }
            for (int n : Due.outside(0, 1)) {
                effect.asked("witness " + n, made, x -> x.object(0, n, 0, cross), -1);
            }
            for (int n : Due.outside(0, 31)) {
                effect.asked("fact " + n, made, x -> x.object(0, 0, n, cross), -1);
                effect.asked("all " + n, made, x -> x.object(n, n, n, cross), -1);
            }
            for (int n : Due.outside(0, 9)) {
                effect.asked("witness " + n + " of 10", witnesses(10), x -> x.object(0, n, 0, cross), -1);
            }
            effect.asked("the first of all", made, x -> x.object(0, 0, 0, cross), 1);
            effect.asked("the last of all", made, x -> x.object(3, 1, 31, cross), 1);
            effect.asked("the last witness, without rules", witnesses(10), x -> x.object(3, 9, 31, cross), 0);
            effect.asked("no witness", rules("sustain leading"), x -> x.object(0, 0, 0, cross), -1);
        }
    }

    private static void objectPutsNoQuestion() {
        due.sentence("(the QUESTION is not put by it)");
        Effect.Made made = Weeks.then(witnesses(1), rules("sustain leading if asked; sustain hearsay if not asked"));
        effect.asked("sustained", made, x -> x.object(1, 0, 0, false), 1);
        effect.asked("not sustained", made, x -> x.object(0, 0, 0, false), 0);
        MockTrials x = new MockTrials();
        made.on(x);
        for (int i = 0; i < 3; i++) {
            due.is("not asked", x.object(0, 0, 0, true), 0);
            due.is("not asked", x.object(1, 0, 0, true), 1);
        }
        due.is("no questions", x.count(10), 0);
        due.is("none was put ahead", x.ask(0, 0), 0);
    }

    private static void sustainedOrNot() {
        due.sentence("an objection of a KIND to it is SUSTAINED, if some RULE of the KIND has no COND, or one that holds");
        effect.asked("without any rules", witnesses(1), x -> x.object(0, 0, 0, false), 0);
        Effect.Made blank = Weeks.then(witnesses(1), Weeks.then(rules("sustain leading"), rules(" ")));
        effect.asked("without any rules left", blank, x -> x.object(0, 0, 0, false), 0);
        Effect.Made other = Weeks.then(witnesses(1), rules("sustain hearsay"));
        effect.asked("without rules of the kind", other, x -> x.object(0, 0, 0, false), 0);
        String many = Texts.times("sustain leading if asked;", 12);
        Effect.Made none = Weeks.then(witnesses(1), rules(many + "sustain hearsay; sustain leading if fact 1"));
        effect.asked("none holds", none, x -> x.object(0, 0, 0, false), 0);
        effect.asked("the last one holds", none, x -> x.object(0, 0, 1, false), 1);
        Effect.Made last = Weeks.then(witnesses(1), rules(many + "sustain leading"));
        effect.asked("the last one has no condition", last, x -> x.object(0, 0, 0, false), 1);
        Effect.Made first = Weeks.then(witnesses(1), rules("sustain leading;" + many + "sustain leading if asked"));
        effect.asked("the first one has no condition", first, x -> x.object(0, 0, 0, false), 1);
    }

    private static void askNumbers() {
        due.sentence("A QUESTION is put: how often this one was put ahead of it. -1 a fact; -2.");
        for (int n : Due.outside(0, 31)) {
            effect.refused("ask(0, " + n + ")", witnesses(2), x -> x.ask(0, n), -1);
            effect.refused("ask(0, " + n + ") of a busy one", Weeks.BUSY, x -> x.ask(0, n), -1);
        }
        for (int n : Due.outside(0, 1)) {
            effect.refused("ask(" + n + ", 0) of 2", witnesses(2), x -> x.ask(n, 0), -2);
            effect.refused("ask(" + n + ", 31) of 2", Weeks.BUSY, x -> x.ask(n, 31), -2);
        }
        for (int n : Due.outside(0, 9)) {
            effect.refused("ask(" + n + ", 0) of 10", witnesses(10), x -> x.ask(n, 0), -2);
        }
        effect.refused("no witness at all", Weeks.NEW, x -> x.ask(0, 0), -2);
        effect.taken("the first", witnesses(10), x -> x.ask(0, 0), 0);
        effect.taken("the last", witnesses(10), x -> x.ask(9, 31), 0);
    }

    private static void askCodes() {
        due.sentence("-1 a fact; -2.");
        for (int n : Due.outside(0, 31)) {
            effect.refused("a fact ahead of no witness", witnesses(2), x -> x.ask(2, n), -1);
            effect.refused("a fact ahead of no witness at all", Weeks.NEW, x -> x.ask(-1, n), -1);
        }
    }

    private static void howOftenAsked() {
        due.sentence("how often this one was put ahead of it");
        MockTrials x = new MockTrials();
        witnesses(10).on(x);
        int[][] asked = {{0, 0}, {0, 31}, {1, 0}, {9, 31}, {9, 0}};
        for (int before = 0; before < 4; before++) {
            for (int[] q : asked) {
                due.is("ask(" + q[0] + ", " + q[1] + ")", x.ask(q[0], q[1]), before);
            }
        }
        x.ask(0, 32);
        x.ask(10, 0);
        due.is("refused ones are not put", x.count(10), 20);
        due.is("beside one another", x.ask(0, 1) + x.ask(9, 30) + x.ask(8, 31) + x.ask(1, 31), 0);
    }

    private static void askedEarlier() {
        due.sentence("asked: an earlier QUESTION of the same WITNESS for the same fact was put");
        Effect.Made made = Weeks.then(witnesses(10), rules("sustain leading if asked"));
        int[][] asked = {{0, 0}, {0, 31}, {9, 0}, {9, 31}, {4, 16}};
        for (int[] q : asked) {
            Effect.Made put = Weeks.then(made, x -> x.ask(q[0], q[1]));
            effect.asked("ahead of it", made, x -> x.object(0, q[0], q[1], false), 0);
            effect.asked("put once", put, x -> x.object(0, q[0], q[1], false), 1);
            effect.asked("another witness", put, x -> x.object(0, (q[0] + 1) % 10, q[1], false), 0);
            effect.asked("another fact", put, x -> x.object(0, q[0], (q[1] + 1) % 32, false), 0);
        }
        effect.asked("a refused one", Weeks.then(made, x -> x.ask(0, 32)), x -> x.object(0, 0, 0, false), 0);
        effect.asked("a refused one", Weeks.then(made, x -> x.ask(10, 0)), x -> x.object(0, 9, 0, false), 0);
    }
}
