/** Promises 15, 16, 17 and 23: witness, implies, implied, ask. */
final class WitnessTest {
    private static final Due due = new Due();

    public static void main(String[] args) {
        witnesses();
        implications();
        chains();
        questions();
        due.finish();
    }

    private static void witnesses() {
        MockTrials x = new MockTrials();
        for (int i = 0; i < 10; i++) {
            due.is("witness " + i, x.witness(i == 9 ? -1 : i), i);
        }
        due.is("the next one", x.witness(0), -5);
        due.is("status", x.status(), -5);
        for (int i = 0; i < 10; i++) {
            due.is("stated by " + i, x.implied(i), i == 9 ? -1 : i);
        }
        due.is("no witness", x.implied(10), 0);
        due.is("no witness", x.implied(-1), 0);
        due.is("no witness", x.implied(Integer.MIN_VALUE), 0);
        due.is("witnesses", x.count(6), 10);
    }

    private static void implications() {
        MockTrials x = new MockTrials();
        due.is("fact 32", x.implies(1, 32), -1);
        due.is("fact -1", x.implies(1, -1), -1);
        due.is("fact greatest", x.implies(1, Integer.MAX_VALUE), -1);
        due.is("status", x.status(), -1);
        for (int i = 1; i <= 40; i++) {
            due.is("implication " + i, x.implies(1, i == 40 ? 31 : 0), i);
        }
        due.is("the next one", x.implies(1, 0), -5);
        due.is("status", x.status(), -5);
        due.is("a bad fact ahead of no room", x.implies(1, 32), -1);
        x.witness(1);
        due.is("the last one leads on", x.implied(0), 1 | 1 << 31);
        due.is("implications", x.count(7), 40);
    }

    private static void chains() {
        MockTrials x = new MockTrials();
        // Told backwards, so that one pass adds one fact.
        for (int fact = 30; fact >= 0; fact--) {
            x.implies(1 << fact, fact + 1);
        }
        x.witness(1);
        x.witness(1 << 20);
        x.witness(0);
        x.witness(1 << 31);
        due.is("all of the chain", x.implied(0), -1);
        due.is("its rest", x.implied(1), -1 << 20);
        due.is("nothing of nothing", x.implied(2), 0);
        due.is("the end", x.implied(3), 1 << 31);
        x.implies(0, 0);
        due.is("of no facts at all", x.implied(2), -1);
        MockTrials y = new MockTrials();
        y.implies(1 << 31 | 1, 5);
        y.witness(1);
        y.witness(1 << 31);
        y.witness(1 << 31 | 1 | 2);
        due.is("one of two facts", y.implied(0), 1);
        due.is("the other one", y.implied(1), 1 << 31);
        due.is("both", y.implied(2), 1 << 31 | 35);
    }

    private static void questions() {
        MockTrials x = new MockTrials();
        due.is("no witness", x.ask(0, 0), -2);
        due.is("status", x.status(), -2);
        x.witness(0);
        x.witness(0);
        due.is("fact 32", x.ask(0, 32), -1);
        due.is("fact -1", x.ask(0, -1), -1);
        due.is("a bad fact ahead of no witness", x.ask(2, 32), -1);
        due.is("witness 2", x.ask(2, 0), -2);
        due.is("witness -1", x.ask(-1, 31), -2);
        due.is("none was put", x.count(10), 0);
        due.is("first", x.ask(0, 31), 0);
        due.is("second", x.ask(0, 31), 1);
        due.is("of another witness", x.ask(1, 31), 0);
        due.is("for another fact", x.ask(0, 0), 0);
        due.is("third", x.ask(0, 31), 2);
        due.is("status", x.status(), 0);
        due.is("questions", x.count(10), 5);
    }
}
