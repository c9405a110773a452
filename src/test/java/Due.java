import java.io.IOException;
import java.io.UncheckedIOException;
import java.nio.file.Files;
import java.nio.file.Path;

/** Counts answers that are not the due ones; a test ends with finish(). */
final class Due {
    private int calls;
    private int wrong;
    private String document = "";
    private String sentence = "";

    void is(String call, long got, long want) {
        calls++;
        if (got != want) {
            tell(call + " answered " + got + ", due is " + want);
        }
    }

    /**
     * The answers from here on are due by this sentence. It must stand in the document to the letter,
     * so that a test can't outlive the words that it was written for.
     */
    void sentence(String quote) {
        sentence = quote;
        calls++;
        if (!document().contains(quote)) {
            tell("the document does not say so");
        }
    }

    /** More went wrong than one answer can tell. */
    void tell(String what) {
        wrong++;
        System.out.println(sentence.isEmpty() ? what : "\"" + sentence + "\": " + what);
    }

    void finish() {
        System.out.println(calls + " answers looked at, " + wrong + " not as due");
        if (wrong != 0) {
            System.exit(1);
        }
    }

    private String document() {
        if (document.isEmpty()) {
            try {
                document = Files.readString(Path.of("../shared/DOC.md")).replaceAll("\\s+", " ");
            } catch (IOException e) {
                throw new UncheckedIOException(e);
            }
        }
        return document;
    }

    /** Numbers that are none of first .. last, the nearest ones and the least and greatest of all among them. */
    static int[] outside(int first, int last) {
        return new int[] {first - 1, last + 1, first - 2, last + 2, Integer.MIN_VALUE, Integer.MIN_VALUE + 1,
            Integer.MAX_VALUE - 1, Integer.MAX_VALUE};
    }

    static MockTrials with(int schools, int judges) {
        MockTrials x = new MockTrials();
        people(x, schools, judges);
        return x;
    }

    static void people(MockTrials x, int schools, int judges) {
        for (int i = 0; i < schools; i++) {
            x.school();
        }
        for (int i = 0; i < judges; i++) {
            x.judge();
        }
    }

    /** Puts a text on the tape, as the call feed wants it: twenty bytes at a time, then cut. */
    static void text(MockTrials x, String text) {
        int before = x.count(9);
        StringBuilder padded = new StringBuilder(text);
        while (padded.length() % 20 != 0) {
            padded.append(' ');
        }
        for (int i = 0; i < padded.length(); i += 20) {
            x.feed(four(padded, i), four(padded, i + 4), four(padded, i + 8), four(padded, i + 12), four(padded, i + 16));
        }
        x.end(before + text.length());
    }

    static int four(CharSequence s, int i) {
        return s.charAt(i) << 24 | s.charAt(i + 1) << 16 | s.charAt(i + 2) << 8 | s.charAt(i + 3);
    }

    static int rules(MockTrials x, String text) {
        text(x, text);
        return x.rules();
    }
}
