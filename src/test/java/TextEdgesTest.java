/** Boundary cases of terms IV and of promises 18 to 21: feed, end, rules, fault. */
final class TextEdgesTest {
    private static final String HEAD = "sustain leading if ";
    private static final Due due = new Due();
    private static final Effect effect = new Effect(due);
    private static final Texts texts = new Texts(due);

    public static void main(String[] args) {
        placesOfBytes();
        behindTheTape();
        fourHundredBytes();
        tooManyBytes();
        firstBytes();
        notSoMany();
        emptyTape();
        blanksAlone();
        tapeIsEmptyThen();
        theyStay();
        fullText();
        blankBytes();
        longestRows();
        numbers();
        nested();
        twentyRules();
        endOfText();
        kindsAndConditions();
        longConditions();
        textAfterText();
        latestFault();
        due.finish();
    }

    /** Blanks with one other byte among them. */
    private static String spot(int length, int place, char what) {
        return " ".repeat(place) + what + " ".repeat(length - place - 1);
    }

    private static int feed(MockTrials x, String twenty) {
        return x.feed(Due.four(twenty, 0), Due.four(twenty, 4), Due.four(twenty, 8), Due.four(twenty, 12), Due.four(twenty, 16));
    }

    private static void placesOfBytes() {
        due.sentence("Twenty bytes come behind the TAPE, four of each number, the highest first: how many it has.");
        for (char what : new char[] {'x', '\u0000', '\u007f', '\u0080', '\u00ff'}) {
            for (int place = 0; place < 20; place++) {
                MockTrials x = new MockTrials();
                due.is("feed", feed(x, spot(20, place, what)), 20);
                due.is("rules", x.rules(), -6);
                due.is("place of byte " + (int) what, x.fault(), place);
            }
        }
        MockTrials y = new MockTrials();
        due.is("the least and the greatest", y.feed(Integer.MIN_VALUE, Integer.MAX_VALUE, -1, 0, 1), 20);
        due.is("of five zeros", y.feed(0, 0, 0, 0, 0), 40);
    }

    private static void behindTheTape() {
        due.sentence("Twenty bytes come behind the TAPE");
        for (int cut = 0; cut <= 20; cut++) {
            MockTrials x = new MockTrials();
            x.feed(0x20202020, 0x20202020, 0x20202020, 0x20202020, 0x20202020);
            x.end(cut);
            due.is("behind " + cut, feed(x, spot(20, 19, '?')), cut + 20);
            x.rules();
            due.is("place of the last byte", x.fault(), cut + 19);
        }
    }

    private static Effect.Made tape(int many) {
        return x -> {
            for (int i = 0; i < many; i += 20) {
                feed(x, "sustain stretch     ");
            }
            x.end(many);
        };
    }

    private static void fourHundredBytes() {
        due.sentence("RULES are a TEXT of at most 400 bytes");
        MockTrials x = new MockTrials();
        for (int many = 20; many <= 400; many += 20) {
            due.is("bytes", feed(x, " ".repeat(20)), many);
            due.is("count(9)", x.count(9), many);
        }
        due.is("one more", feed(x, " ".repeat(20)), -1);
        due.is("still 400", x.count(9), 400);
        for (int place : new int[] {0, 379, 380, 399}) {
            texts.bad(spot(400, place, '?'), place);
        }
    }

    private static void tooManyBytes() {
        due.sentence("NONE, if there would be more than 400.");
        for (int many = 381; many <= 400; many++) {
            effect.asked("feed behind " + many, tape(many), x -> feed(x, "sustain leading     "), -1);
        }
        for (int many = 361; many <= 380; many++) {
            MockTrials x = new MockTrials();
            tape(many).on(x);
            due.is("feed behind " + many, feed(x, " ".repeat(20)), many + 20);
        }
        effect.statusStays("feed", Weeks.NEW, x -> feed(x, " ".repeat(20)));
    }

    private static void firstBytes() {
        due.sentence("The TAPE has its first n bytes alone: n.");
        for (int n = 0; n <= 400; n++) {
            MockTrials x = new MockTrials();
            tape(400).on(x);
            due.is("end(" + n + ")", x.end(n), n);
            due.is("count(9)", x.count(9), n);
            due.is("no more come back", x.end(n + 1), -1);
        }
        effect.alike("end(0)", Weeks.NEW, Weeks.then(tape(400), x -> x.end(0)));
        effect.same("end of all", tape(400), x -> x.end(400));
        effect.same("end of all", tape(15), x -> x.end(15));
        effect.alike("end(15)", tape(15), Weeks.then(tape(40), x -> x.end(15)));
        effect.statusStays("end", tape(20), x -> x.end(20));
        MockTrials y = new MockTrials();
        feed(y, "sustain leading   if");
        y.end(8);
        feed(y, "stretch             ");
        y.end(15);
        due.is("one rule", y.rules(), 1);
        y.witness(0);
        due.is("of the bytes behind the cut", y.object(2, 0, 0, false), 1);
        due.is("not of those that were cut", y.object(0, 0, 0, false), 0);
    }

    private static void notSoMany() {
        due.sentence("NONE, if it has not so many, or n is below 0.");
        for (int many : new int[] {0, 1, 15, 20, 399, 400}) {
            for (int n : Due.outside(0, many)) {
                effect.asked("end(" + n + ") of " + many, tape(many), x -> x.end(n), -1);
            }
        }
        effect.asked("end(0) of none", Weeks.NEW, x -> x.end(0), 0);
    }

    /** The promise has it with "blanks alone", though the codes' "or there is none" could be read otherwise. */
    private static void emptyTape() {
        due.sentence("how many (blanks alone: none)");
        effect.taken("rules() of a new object", Weeks.NEW, x -> x.rules(), 0);
        effect.same("rules() of a new object", Weeks.NEW, x -> x.rules());
        effect.taken("rules() behind end(0)", Weeks.then(tape(400), x -> x.end(0)), x -> x.rules(), 0);
        effect.taken("rules() twice", Weeks.then(tape(15), x -> x.rules()), x -> x.rules(), 0);
        effect.asked("no rules then", Weeks.then(tape(15), x -> {
            x.rules();
            x.rules();
        }), x -> x.count(8), 0);
        texts.good("", 0);
    }

    private static void blanksAlone() {
        due.sentence("(blanks alone: none)");
        for (int many : new int[] {1, 2, 19, 20, 21, 399, 400}) {
            texts.good(" ".repeat(many), 0);
            texts.bad(spot(many, many - 1, ';'), many - 1);
        }
        effect.alike("blanks alone", Weeks.NEW, x -> {
            Due.rules(x, "sustain leading");
            Due.rules(x, "    ");
        });
    }

    private static void tapeIsEmptyThen() {
        due.sentence("The TAPE, which is empty then, becomes RULES");
        for (String text : new String[] {"sustain leading", "x", " ", "sustain leading if", " ".repeat(400), "?".repeat(400)}) {
            MockTrials x = new MockTrials();
            Due.rules(x, text);
            due.is("bytes behind \"" + text + "\"", x.count(9), 0);
            due.is("not one", x.end(1), -1);
            due.is("room for the next", feed(x, " ".repeat(20)), 20);
        }
        texts.good("sustain leading; sustain leading; sustain leading", 3);
        texts.good("sustain leading", 1);
    }

    private static void theyStay() {
        due.sentence("-6: they stay, FAULT is told.");
        String[] bad = {"x", "sustain", "sustain stretch; sustain leading if asked or x", "sustain relevance;", HEAD + "(cross",
            Texts.times("sustain stretch;", 20) + "sustain stretch", HEAD + "fact 32", " ;", "?".repeat(400)};
        int[] faults = {0, 7, 45, 18, 25, 320, 24, 1, 0};
        for (int i = 0; i < bad.length; i++) {
            String text = bad[i];
            Effect.Made made = Weeks.then(Weeks.BUSY, x -> {
                x.end(0);
                Due.text(x, text);
            });
            MockTrials x = new MockTrials();
            made.on(x);
            due.is("rules of \"" + text + "\"", x.rules(), -6);
            due.is("status()", x.status(), -6);
            due.is("fault()", x.fault(), faults[i]);
            effect.alikeButFault("a bad text", Weeks.then(made, y -> y.end(0)), Weeks.then(made, y -> y.rules()));
        }
    }

    private static void fullText() {
        due.sentence("RULES are a TEXT of at most 400 bytes");
        String most = HEAD + "cross" + Texts.times(" or asked", 41);
        due.is("length of the text", most.length(), 393);
        texts.good(most + " ".repeat(7), 1);
        texts.good(HEAD + "cross" + Texts.times(" or asked", 40) + "   or not stated", 1);
        texts.bad(most + "      x", 399);
        texts.bad(most + "      ;", 400);
        texts.bad(most + "     or", 400);
        texts.bad(most + " or    ", 400);
        texts.bad(most + " or x  ", 397);
        texts.good(" ".repeat(385) + "sustain leading", 1);
        texts.bad(" ".repeat(386) + "sustain leadin", 394);
        texts.bad("s".repeat(400), 0);
        texts.bad("(".repeat(400), 0);
    }

    private static void blankBytes() {
        due.sentence("any blanks (32) between TOKENS");
        for (int b = 0; b < 256; b++) {
            char c = (char) b;
            boolean letter = c >= 'a' && c <= 'z';
            if (c == ' ') {
                texts.good("sustain" + c + "leading", 1);
                texts.good(c + "sustain leading", 1);
                texts.good("sustain leading" + c, 1);
            } else {
                texts.bad("sustain" + c + "leading", letter ? 0 : 7);
                texts.bad(c + "sustain leading", 0);
                texts.bad("sustain leading" + c, letter ? 8 : c == ';' ? 16 : 15);
            }
        }
        texts.good("   sustain   leading   if   (   cross   )   ;   sustain   hearsay   ", 2);
        texts.good("sustain leading if(cross);sustain hearsay", 2);
    }

    private static void longestRows() {
        due.sentence("(longest rows of letters a .. z, of digits, single other bytes)");
        for (int b = 0; b < 256; b++) {
            char c = (char) b;
            // Three digits that begin with 3 are above 31; behind a blank or ";" the 1 can't go on.
            int place = c >= '0' && c <= '9' ? 24 : c == ' ' || c == ';' ? 26 : 25;
            texts.bad(HEAD + "fact 3" + c + "1", place);
        }
        texts.good(HEAD + "fact3and fact4or not(fact5)and(cross)", 1);
        texts.bad(HEAD + "fact 3 1", 26);
        texts.bad(HEAD + "factcross", 19);
        texts.bad(HEAD + "notcross", 19);
        texts.bad("sus tain leading", 0);
        texts.bad("sustain lead ing", 8);
        texts.bad(HEAD + "cross andasked", 25);
        texts.bad(HEAD + "cross;;", 25);
        texts.bad("Sustain leading", 0);
        texts.bad("sustain leadinG", 8);
    }

    private static void numbers() {
        due.sentence("NUMBERS to 31");
        for (int n = 0; n < 120; n++) {
            if (n > 31) {
                texts.bad(HEAD + "fact " + n, 24);
                continue;
            }
            MockTrials x = new MockTrials();
            x.witness(0);
            due.is("rules of fact " + n, Due.rules(x, HEAD + "fact " + n), 1);
            for (int fact = 0; fact < 32; fact++) {
                due.is("fact " + n + " of " + fact, x.object(0, 0, fact, false), n == fact ? 1 : 0);
            }
        }
        // 32 and what comes round to a small number in 8, 16, 32 or 64 bits.
        for (String n : new String[] {"032", "256", "260", "65536", "65540", "2147483647", "2147483648", "4294967295", "4294967296",
            "4294967300", "18446744073709551615", "18446744073709551616", "18446744073709551620", "9".repeat(376)}) {
            texts.bad(HEAD + "fact " + n, 24);
        }
        for (String n : new String[] {"00", "031", "0".repeat(376), "0".repeat(374) + "31"}) {
            texts.good(HEAD + "fact " + n, 1);
        }
        texts.bad(HEAD + "fact " + "0".repeat(374) + "32", 24);
        texts.bad(HEAD + "fact", 23);
        texts.bad(HEAD + "fact  ", 25);
        texts.bad(HEAD + "fact -1", 24);
        texts.bad(HEAD + "31", 19);
    }

    /** As many "(" and "not" within one another as given, by the bits of a number. */
    private static String within(int bits, int many, String inside) {
        StringBuilder before = new StringBuilder();
        StringBuilder behind = new StringBuilder();
        for (int i = 0; i < many; i++) {
            boolean bracket = (bits >> i & 1) == 1;
            before.append(bracket ? "(" : "not ");
            behind.append(bracket ? ")" : "");
        }
        return before + inside + behind;
    }

    private static void nested() {
        due.sentence("at most 8 \"(\" and \"not\" within one another (FAULT at the ninth)");
        for (int bits = 0; bits < 256; bits++) {
            int brackets = Integer.bitCount(bits);
            int ninth = HEAD.length() + brackets + 4 * (8 - brackets);
            texts.good(HEAD + within(bits, 8, "cross"), 1);
            texts.bad(HEAD + within(bits, 8, "not cross"), ninth);
            texts.bad(HEAD + within(bits, 8, "(cross)"), ninth);
            due.is("turned by each not", turned(bits), (8 - brackets) % 2 == 0 ? 1 : 0);
        }
        texts.bad(HEAD + within(255, 8, "cross and (cross)"), HEAD.length() + 18);
        texts.bad(HEAD + within(255, 8, "cross or not cross"), HEAD.length() + 17);
        // Beside one another they don't add up, nor does a bracket that is closed.
        String eight = within(85, 8, "cross");
        texts.good(HEAD + eight + " and " + eight + " or " + eight, 1);
        texts.good(HEAD + eight + ";" + HEAD + eight, 2);
        texts.good(HEAD + within(255, 7, "not cross and not cross and (cross) or not cross"), 1);
        texts.good(HEAD + Texts.times("not cross and ", 10) + "not cross", 1);
        texts.good(HEAD + Texts.times("(cross) or ", 10) + "(cross)", 1);
    }

    private static int turned(int bits) {
        MockTrials x = new MockTrials();
        x.witness(0);
        Due.rules(x, HEAD + within(bits, 8, "cross"));
        return x.object(0, 0, 0, true);
    }

    private static void twentyRules() {
        due.sentence("20 RULES at most (the 21st's first TOKEN)");
        for (int many = 1; many <= 20; many++) {
            texts.good(Texts.times("sustain leading;", many - 1) + "sustain hearsay", many);
        }
        String twenty = Texts.times("sustain leading;", 20);
        texts.bad(twenty + "sustain hearsay", 320);
        texts.bad(twenty + "   sustain hearsay", 323);
        texts.bad(twenty + "sustain hearsay; x", 320);
        texts.bad(twenty + "x", 320);
        texts.bad(twenty + "  ;", 322);
        texts.bad(twenty, 320);
        texts.bad(twenty + "   ", 323);
        texts.bad(twenty.substring(0, 319) + "  sustain", 321);
        texts.bad(Texts.times("sustain leading;", 24), 320);
        MockTrials x = new MockTrials();
        x.witness(0);
        due.is("20 rules", Due.rules(x, twenty.substring(16) + "sustain stretch if fact 31"), 20);
        due.is("the 20th holds", x.object(2, 0, 31, false), 1);
        due.is("or not", x.object(2, 0, 30, false), 0);
    }

    private static void endOfText() {
        due.sentence("FAULT: the first TOKEN that can't go on there (the end's: the TEXT's length).");
        String[] open = {"sustain", "sustain leading;", "sustain leading if", HEAD + "not", HEAD + "(", HEAD + "(cross", HEAD + "cross or",
            HEAD + "cross and", HEAD + "fact", HEAD + "((cross)", HEAD + "(not (cross) or"};
        for (String text : open) {
            for (int blanks = 0; blanks <= 3; blanks++) {
                texts.bad(text + " ".repeat(blanks), text.length() + blanks);
            }
            texts.bad(text + " ?", text.length() + 1);
            texts.bad(text + " ? x", text.length() + 1);
            texts.bad(text + " ".repeat(400 - text.length()), 400);
        }
        texts.bad("?", 0);
        texts.bad("  ?", 2);
    }

    private static void kindsAndConditions() {
        due.sentence("RULE {\";\" RULE}. RULE: \"sustain\" KIND [\"if\" COND].");
        texts.bad(";", 0);
        texts.bad("; sustain leading", 0);
        texts.bad("sustain leading;", 16);
        texts.bad("sustain leading;;sustain leading", 16);
        texts.bad("sustain leading sustain leading", 16);
        texts.bad("leading", 0);
        texts.bad("sustain cross", 8);
        texts.bad("sustain sustain", 8);
        texts.bad("sustain leading hearsay", 16);
        texts.bad("sustain leading cross", 16);
        texts.bad("if cross", 0);
        texts.bad(HEAD + "if", 19);
        texts.bad(HEAD + "cross cross", 25);
        texts.bad(HEAD + "cross if", 25);
        texts.bad(HEAD + "cross not asked", 25);
        texts.bad(HEAD + "cross (asked)", 25);
        texts.bad(HEAD + "cross)", 24);
        texts.bad(HEAD + ")", 19);
        texts.bad(HEAD + "()", 20);
        texts.bad(HEAD + "and cross", 19);
        texts.bad(HEAD + "cross and and cross", 29);
        texts.bad(HEAD + "leading", 19);
        texts.bad(HEAD + ";", 19);
        texts.bad(HEAD + "(cross;)", 25);
    }

    private static void longConditions() {
        due.sentence("COND: AND {\"or\" AND}; AND: NOT {\"and\" NOT}");
        MockTrials x = new MockTrials();
        x.witness(0);
        due.is("a long row of or", Due.rules(x, HEAD + Texts.times("fact0or ", 46) + "fact31"), 1);
        due.is("its first", x.object(0, 0, 0, false), 1);
        due.is("its last", x.object(0, 0, 31, false), 1);
        due.is("none of it", x.object(0, 0, 1, false), 0);
        due.is("a long row of and", Due.rules(x, HEAD + Texts.times("fact5and ", 41) + "cross"), 1);
        due.is("all of it", x.object(0, 0, 5, true), 1);
        due.is("all but the last", x.object(0, 0, 5, false), 0);
        due.is("the last alone", x.object(0, 0, 4, true), 0);
        String deep = "asked";
        for (int i = 0; i < 8; i++) {
            deep = "cross and fact1 or fact2 and (" + deep + ")";
        }
        due.is("a deep one", Due.rules(x, HEAD + deep), 1);
        due.is("not asked yet", x.object(0, 0, 2, false), 0);
        x.ask(0, 2);
        due.is("asked, within eight", x.object(0, 0, 2, false), 1);
        due.is("of no deep one", x.object(0, 0, 1, true), 1);
        due.is("of no one", x.object(0, 0, 1, false), 0);
    }

    /** As many long texts as 512 calls have room for: none may take what the next one needs. */
    private static void textAfterText() {
        due.sentence("The TAPE, which is empty then, becomes RULES");
        MockTrials x = new MockTrials();
        x.witness(0);
        for (int i = 0; i < 20; i++) {
            int last = i % 2 == 0 ? 31 : 30;
            due.is("rules", Due.rules(x, HEAD + Texts.times("fact0or ", 46) + "fact" + last), 1);
            due.is("its last fact", x.object(0, 0, last, false), 1);
            due.is("the earlier text's", x.object(0, 0, 61 - last, false), 0);
        }
    }

    private static void latestFault() {
        due.sentence("FAULT of the latest rules(): its place; NONE without.");
        effect.asked("ahead of any", Weeks.NEW, x -> x.fault(), -1);
        effect.asked("of a good one", x -> Due.rules(x, "sustain leading"), x -> x.fault(), -1);
        effect.asked("of a bad one", x -> Due.rules(x, "sustain"), x -> x.fault(), 7);
        Effect.Made bad = x -> {
            Due.rules(x, "sustain");
            Due.rules(x, "?");
        };
        effect.asked("of the latest bad one", bad, x -> x.fault(), 0);
        effect.asked("of a good one behind it", Weeks.then(bad, x -> Due.rules(x, "sustain leading")), x -> x.fault(), -1);
        effect.asked("of blanks behind it", Weeks.then(bad, x -> Due.rules(x, " ")), x -> x.fault(), -1);
        effect.asked("of an empty tape behind it", Weeks.then(bad, x -> x.rules()), x -> x.fault(), -1);
        effect.asked("other calls leave it", x -> {
            Due.rules(x, "sustain");
            Due.text(x, "sustain leading");
            x.end(3);
            x.school();
            x.gone(7, true);
        }, x -> x.fault(), 7);
    }
}
