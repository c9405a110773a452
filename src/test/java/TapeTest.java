/** Promises 18 and 19: feed, end. */
final class TapeTest {
    private static final Due due = new Due();

    public static void main(String[] args) {
        fullTape();
        cuts();
        byteOrder();
        due.finish();
    }

    private static void fullTape() {
        MockTrials x = new MockTrials();
        for (int i = 1; i <= 20; i++) {
            due.is("feed " + i, x.feed(0, 0, 0, 0, 0), 20 * i);
        }
        due.is("one more", x.feed(0, 0, 0, 0, 0), -1);
        due.is("nothing came", x.count(9), 400);
        due.is("end(400)", x.end(400), 400);
        due.is("end(401)", x.end(401), -1);
        due.is("end(381)", x.end(381), 381);
        due.is("there would be 401", x.feed(0, 0, 0, 0, 0), -1);
        due.is("none of it came", x.count(9), 381);
        due.is("end(380)", x.end(380), 380);
        due.is("there are 400", x.feed(0, 0, 0, 0, 0), 400);
        due.is("status is left alone", x.status(), 0);
    }

    private static void cuts() {
        MockTrials x = new MockTrials();
        due.is("end(0) of an empty one", x.end(0), 0);
        due.is("end(1) of an empty one", x.end(1), -1);
        due.is("end(-1)", x.end(-1), -1);
        due.is("end(least)", x.end(Integer.MIN_VALUE), -1);
        due.is("end(greatest)", x.end(Integer.MAX_VALUE), -1);
        x.feed(1, 2, 3, 4, 5);
        due.is("end(21)", x.end(21), -1);
        due.is("end(20)", x.end(20), 20);
        due.is("end(3)", x.end(3), 3);
        due.is("three bytes", x.count(9), 3);
        due.is("end(4)", x.end(4), -1);
        due.is("feed", x.feed(1, 2, 3, 4, 5), 23);
        due.is("end(0)", x.end(0), 0);
        due.is("no bytes", x.count(9), 0);
        due.is("status is left alone", x.status(), 0);
        x.pair(-1);
        x.feed(1, 2, 3, 4, 5);
        x.end(-1);
        due.is("status is left alone", x.status(), -1);
    }

    private static void byteOrder() {
        MockTrials x = new MockTrials();
        // "sustain relevance if" in five numbers; each place but the last good one is told as fault.
        String text = "sustain relevance if";
        x.feed(Due.four(text, 0), Due.four(text, 4), Due.four(text, 8), Due.four(text, 12), Due.four(text, 16));
        due.is("a condition is missing", x.rules(), -6);
        due.is("its place", x.fault(), 20);
        x.feed(Due.four(text, 0), Due.four(text, 4), Due.four(text, 8), Due.four(text, 12), Due.four(text, 16));
        x.end(17);
        due.is("one rule", x.rules(), 1);
        due.is("the tape is empty", x.count(9), 0);
        // A second piece comes behind a cut one.
        x.feed(Due.four(text, 0), Due.four(text, 4), Due.four(text, 8), Due.four(text, 12), Due.four(text, 16));
        x.end(8);
        String rest = "stretch; sustain lea";
        x.feed(Due.four(rest, 0), Due.four(rest, 4), Due.four(rest, 8), Due.four(rest, 12), Due.four(rest, 16));
        x.end(15);
        x.witness(0);
        due.is("one rule", x.rules(), 1);
        due.is("of the second piece", x.object(2, 0, 0, false), 1);
        due.is("not of the first", x.object(3, 0, 0, false), 0);
    }
}
