/** Counts answers that are not the due ones; a test ends with finish(). */
final class Due {
    private int calls;
    private int wrong;

    void is(String call, long got, long want) {
        calls++;
        if (got != want) {
            wrong++;
            System.out.println(call + " answered " + got + ", due is " + want);
        }
    }

    void finish() {
        System.out.println(calls + " answers looked at, " + wrong + " not as due");
        if (wrong != 0) {
            System.exit(1);
        }
    }

    static MockTrials with(int schools, int judges) {
        MockTrials x = new MockTrials();
        for (int i = 0; i < schools; i++) {
            x.school();
        }
        for (int i = 0; i < judges; i++) {
            x.judge();
        }
        return x;
    }

    /** Puts a text on the tape, as the call feed wants it: twenty bytes at a time, then cut. */
    static void text(MockTrials x, String text) {
        int before = x.count(9);
        StringBuilder padded = new StringBuilder(text);
        while (padded.length() % 20 != 0) {
            padded.append(' ');
        }
        for (int i = 0; i < padded.length(); i += 20) {
            x.feed(four(padded, i), four(padded, i + 4), four(padded, i + 8), four(padded, i + 12), four(padded, i + 16));
        }
        x.end(before + text.length());
    }

    static int four(CharSequence s, int i) {
        return s.charAt(i) << 24 | s.charAt(i + 1) << 16 | s.charAt(i + 2) << 8 | s.charAt(i + 3);
    }

    static int rules(MockTrials x, String text) {
        text(x, text);
        return x.rules();
    }
}
