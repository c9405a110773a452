/** Looks at what a text becomes: rules, or a fault by which the earlier rules stay. */
final class Texts {
    private static final String EARLIER = "sustain hearsay; sustain relevance if fact 7";

    private final Due due;

    Texts(Due due) {
        this.due = due;
    }

    /** An object with rules that were read earlier, and the text on its tape. */
    private static MockTrials with(String text) {
        MockTrials x = new MockTrials();
        x.witness(0);
        Due.rules(x, EARLIER);
        Due.text(x, text);
        return x;
    }

    void good(String text, int many) {
        MockTrials x = with(text);
        due.is("rules of \"" + text + "\"", x.rules(), many);
        due.is("fault", x.fault(), -1);
        due.is("status", x.status(), 0);
        due.is("count", x.count(8), many);
        due.is("the tape is empty", x.count(9), 0);
    }

    void bad(String text, int place) {
        MockTrials x = with(text);
        due.is("rules of \"" + text + "\"", x.rules(), -6);
        due.is("fault of \"" + text + "\"", x.fault(), place);
        due.is("status", x.status(), -6);
        due.is("the tape is empty", x.count(9), 0);
        due.is("the earlier rules stay", x.count(8), 2);
        due.is("the first of them", x.object(1, 0, 0, false), 1);
        due.is("the second of them", x.object(3, 0, 7, false), 1);
        due.is("its condition", x.object(3, 0, 6, false), 0);
        due.is("no others", x.object(0, 0, 0, false) + x.object(0, 0, 0, true) + x.object(2, 0, 0, false), 0);
    }

    static String times(String text, int many) {
        StringBuilder all = new StringBuilder();
        for (int i = 0; i < many; i++) {
            all.append(text);
        }
        return all.toString();
    }
}
