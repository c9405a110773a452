/** Promises 20, 21 and 22: rules, fault, object. */
final class RulesTest {
    private static final Due due = new Due();
    private static final Texts texts = new Texts(due);

    public static void main(String[] args) {
        goodTexts();
        faults();
        nesting();
        manyRules();
        fullTape();
        theyStay();
        kinds();
        conditions();
        strengths();
        wrongObjections();
        due.finish();
    }

    private static void good(String text, int many) {
        texts.good(text, many);
    }

    private static void bad(String text, int place) {
        texts.bad(text, place);
    }

    private static void goodTexts() {
        good("", 0);
        good(" ", 0);
        good("                                             ", 0);
        good("sustain leading", 1);
        good("   sustain   hearsay   ", 1);
        good("sustain stretch;sustain relevance", 2);
        good("sustain leading if fact31", 1);
        good("sustain leading if fact 0", 1);
        good("sustain leading if fact 0000000000000000000031", 1);
        good("sustain leading if(cross)or(not stated)and not(implied or asked)", 1);
        good("sustain leading if not not not cross and asked or fact 7 and stated", 1);
    }

    private static void faults() {
        bad("sustain", 7);
        bad("sustain  ", 9);
        bad("  Sustain leading", 2);
        bad("sustains leading", 0);
        bad("sustainleading", 0);
        bad("sustain leading leading", 16);
        bad("sustain leadingif cross", 8);
        bad("sustain lead", 8);
        bad("sustain leading;", 16);
        bad("sustain leading ; ", 18);
        bad(";", 0);
        bad("sustain leading;;sustain leading", 16);
        bad("sustain leading if", 18);
        bad("sustain leading if or", 19);
        bad("sustain leading if cross or", 27);
        bad("sustain leading if cross and or", 29);
        bad("sustain leading if not", 22);
        bad("sustain leading if crossing", 19);
        bad("sustain leading if crossz", 19);
        bad("sustain leading if crossa", 19);
        bad("sustain leading if cross{", 24);
        bad("sustain leading if cross`", 24);
        bad("sustain leading if fact/", 23);
        bad("sustain leading if fact:", 23);
        bad("sustain leading if fact 19 29", 27);
        bad("sustain leading if fact 39", 24);
        bad("sustain leading if fact", 23);
        bad("sustain leading if fact ;", 24);
        bad("sustain leading if fact cross", 24);
        bad("sustain leading if fact 32", 24);
        bad("sustain leading if fact 4294967296", 24);
        bad("sustain leading if fact 18446744073709551617", 24);
        bad("sustain leading if fact 3 1", 26);
        bad("sustain leading if fact -1", 24);
        bad("sustain leading if 5", 19);
        bad("sustain leading if ()", 20);
        bad("sustain leading if (cross", 25);
        bad("sustain leading if (cross;", 25);
        bad("sustain leading if cross)", 24);
        bad("sustain leading if (cross))", 26);
        bad("sustain leading if if cross", 19);
        bad("sustain leading\u0000", 15);
        bad("sustain\tleading", 7);
        bad("\u00ff", 0);
        bad("sustain leading if cross \u00e1", 25);
        bad("sustain leading; hearsay", 17);
    }

    private static void nesting() {
        String head = "sustain leading if ";
        good(head + "((((((((cross))))))))", 1);
        bad(head + "(((((((((cross)))))))))", 27);
        good(head + "not not not not not not not not cross", 1);
        bad(head + "not not not not not not not not not cross", 19 + 32);
        good(head + "not(not(not(not(cross))))", 1);
        bad(head + "not(not(not(not((cross)))))", 19 + 16);
        bad(head + "not(not(not(not(not cross))))", 19 + 16);
        good(head + "((((((((cross)))))))) and ((((((((asked))))))))", 1);
        good(head + "not not not not not not not not cross or not not not not not not not not asked", 1);
        good(head + "(not not not not not not not cross and (((((((asked))))))))", 1);
        bad(head + "(not not not not not not not cross and ((((((((asked)))))))))", 19 + 39 + 7);
    }

    private static void manyRules() {
        String nineteen = Texts.times("sustain leading;", 19);
        good(nineteen + "sustain leading", 20);
        bad(nineteen + "sustain leading;", 320);
        bad(nineteen + "sustain leading;sustain leading", 320);
        bad(nineteen + "sustain leading;  sustain leading", 322);
        bad(nineteen + "sustain leading;x", 320);
        bad(nineteen + "sustain leading x", 320);
    }

    private static void fullTape() {
        String head = "sustain leading if cross";
        String text = head + Texts.times(" or cross", 41) + "       ";
        due.is("length", text.length(), 400);
        good(text, 1);
        bad(text.substring(0, 399) + "x", 399);
        bad(Texts.times("(", 400), 0);
        bad(head + Texts.times(" and not", 47), 33);
        bad(head + Texts.times(" or asked", 41) + "     or", 400);
        good(Texts.times(" ", 400), 0);
    }

    private static void theyStay() {
        MockTrials x = new MockTrials();
        x.witness(0);
        due.is("two rules", Due.rules(x, "sustain leading; sustain hearsay if cross"), 2);
        due.is("a bad text", Due.rules(x, "sustain stretch; sustain leading if asked or x"), -6);
        due.is("they stay", x.count(8), 2);
        due.is("leading", x.object(0, 0, 0, false), 1);
        due.is("hearsay", x.object(1, 0, 0, true), 1);
        due.is("hearsay", x.object(1, 0, 0, false), 0);
        due.is("stretch", x.object(2, 0, 0, true), 0);
        due.is("fault", x.fault(), 45);
        x.school();
        due.is("fault stays told", x.fault(), 45);
        due.is("new ones", Due.rules(x, "sustain stretch"), 1);
        due.is("no fault", x.fault(), -1);
        due.is("leading no more", x.object(0, 0, 0, false), 0);
        due.is("stretch", x.object(2, 0, 0, false), 1);
        due.is("another bad text", Due.rules(x, "?"), -6);
        due.is("stretch stays", x.object(2, 0, 0, false), 1);
        due.is("blanks alone", Due.rules(x, "  "), 0);
        due.is("no rules", x.count(8), 0);
        due.is("stretch no more", x.object(2, 0, 0, false), 0);
    }

    private static void kinds() {
        String[] kinds = {"leading", "hearsay", "stretch", "relevance"};
        for (int kind = 0; kind < 4; kind++) {
            MockTrials x = new MockTrials();
            x.witness(0);
            Due.rules(x, "sustain " + kinds[kind]);
            for (int other = 0; other < 4; other++) {
                due.is("object(" + other + ") to " + kinds[kind], x.object(other, 0, 0, false), kind == other ? 1 : 0);
            }
        }
    }

    private static int sustained(String cond, int fact, boolean cross) {
        MockTrials x = new MockTrials();
        x.witness(0);
        x.witness(1);
        x.implies(1, 31);
        x.ask(1, 5);
        x.ask(0, 6);
        Due.rules(x, "sustain hearsay if asked and not asked; sustain leading if " + cond);
        return x.object(0, 1, fact, cross);
    }

    private static void conditions() {
        due.is("cross", sustained("cross", 0, true), 1);
        due.is("not on cross", sustained("cross", 0, false), 0);
        due.is("stated", sustained("stated", 0, false), 1);
        due.is("implied isn't stated", sustained("stated", 31, false), 0);
        due.is("implied", sustained("implied", 31, false), 1);
        due.is("stated is implied", sustained("implied", 0, false), 1);
        due.is("not implied", sustained("implied", 30, false), 0);
        due.is("asked", sustained("asked", 5, false), 1);
        due.is("asked of another witness", sustained("asked", 6, false), 0);
        due.is("asked for another fact", sustained("asked", 4, false), 0);
        due.is("fact 0", sustained("fact 0", 0, false), 1);
        due.is("fact 31", sustained("fact 31", 31, false), 1);
        due.is("fact 30", sustained("fact 30", 31, false), 0);
        due.is("not", sustained("not cross", 0, false), 1);
        due.is("objections put no question", asksByObjecting(), 0);
        MockTrials x = new MockTrials();
        x.witness(0);
        due.is("without rules", x.object(0, 0, 0, false), 0);
        Due.rules(x, "sustain leading if cross; sustain leading if fact 3; sustain leading if fact 4");
        due.is("some rule of the kind", x.object(0, 0, 3, false), 1);
        due.is("the last one", x.object(0, 0, 4, false), 1);
        due.is("none of the kind", x.object(0, 0, 5, false), 0);
    }

    private static int asksByObjecting() {
        MockTrials x = new MockTrials();
        x.witness(0);
        Due.rules(x, "sustain leading if asked");
        x.object(0, 0, 0, false);
        due.is("no question", x.count(10), 0);
        return x.object(0, 0, 0, false);
    }

    /** "not" binds more than "and", "and" more than "or"; brackets turn that round. */
    private static void strengths() {
        for (int bits = 0; bits < 8; bits++) {
            boolean a = (bits & 1) != 0;
            boolean b = (bits & 2) != 0;
            boolean c = (bits & 4) != 0;
            String p = a ? "fact 9" : "fact 8";
            String q = b ? "fact 9" : "fact 8";
            String r = c ? "fact 9" : "fact 8";
            is(p + " or " + q + " and " + r, a || b && c);
            is(p + " and " + q + " or " + r, a && b || c);
            is("(" + p + " or " + q + ") and " + r, (a || b) && c);
            is("not " + p + " and " + q, !a && b);
            is("not " + p + " or " + q, !a || b);
            is("not (" + p + " or " + q + ")", !(a || b));
            is("not (" + p + " and " + q + ") or not " + r, !(a && b) || !c);
            is("not not " + p + " and not (" + q + " or not (" + r + "))", a && !(b || !c));
        }
        String deep = "cross";
        for (int i = 0; i < 8; i++) {
            deep = "cross or stated and (" + deep + ")";
        }
        due.is("a deep one on cross", sustained(deep, 0, true), 1);
        due.is("a deep one without", sustained(deep, 0, false), 0);
        String other = "not cross";
        for (int i = 0; i < 7; i++) {
            other = "cross or stated and (" + other + ")";
        }
        due.is("another deep one", sustained(other, 0, false), 1);
        due.is("of what isn't stated", sustained(other, 1, false), 0);
    }

    private static void is(String cond, boolean want) {
        due.is(cond, sustained(cond, 9, false), want ? 1 : 0);
    }

    private static void wrongObjections() {
        MockTrials x = new MockTrials();
        x.witness(0);
        Due.rules(x, "sustain leading; sustain relevance");
        due.is("kind 4", x.object(4, 0, 0, false), -1);
        due.is("kind -1", x.object(-1, 0, 0, false), -1);
        due.is("witness 1", x.object(0, 1, 0, false), -1);
        due.is("witness -1", x.object(0, -1, 0, false), -1);
        due.is("fact 32", x.object(0, 0, 32, false), -1);
        due.is("fact -1", x.object(0, 0, -1, false), -1);
        due.is("all greatest", x.object(Integer.MAX_VALUE, Integer.MAX_VALUE, Integer.MAX_VALUE, true), -1);
        due.is("fact 31", x.object(3, 0, 31, true), 1);
        due.is("status is left alone", x.status(), 0);
    }
}
