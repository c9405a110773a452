import java.io.IOException;
import java.lang.reflect.Method;
import java.lang.reflect.Modifier;
import java.nio.file.Files;
import java.nio.file.Path;
import java.util.Arrays;
import java.util.List;
import java.util.Map;
import java.util.Set;
import java.util.TreeMap;
import java.util.TreeSet;
import java.util.function.Supplier;
import java.util.regex.Matcher;
import java.util.regex.Pattern;
import java.util.stream.Collectors;

/** What README.md tells is so: its examples, its table of calls, and the tests that it names. */
final class ReadmeTest {
    private static final Due due = new Due();
    private static final Path TESTS = Path.of("src/test/java");
    /** A call, and an answer that the table tells on its right side; made on full() but for those of STARTS. */
    private static final Map<String, Effect.Call> OTHERS = new TreeMap<>();
    private static final Map<String, Supplier<MockTrials>> STARTS =
        Map.of("pair -3", () -> Due.with(1, 0), "ballot -5", ReadmeTest::fullOfBallots);

    /** The words by which the table tells what a number asks for, and what is due then of numbered(). */
    private static final Map<String, Map<String, int[]>> WORDS = Map.of(
        "trial", Map.of("the accusing school", new int[] {0, 2}, "the defending school", new int[] {1, 0},
            "the room", new int[] {0, 0}, "the first judge", new int[] {1, 3}, "the second judge", new int[] {2, 4},
            "how many trials", new int[] {1, 1}, "the bye", new int[] {2, 1}),
        "counts", Map.of("those of the accusing school", new int[] {80}, "those of the defending school", new int[] {60}),
        "of", Map.of("wins", new int[] {2, 2, 4}, "halves", new int[] {4, 0, 2}, "wins of those met", new int[] {6, 2, 2},
            "margins", new int[] {1000, -2000, 1000}, "its place", new int[] {1, 2, 0},
            "how often it accused", new int[] {1, 0, 1}, "its byes", new int[] {0, 1, 1}),
        "count", Map.ofEntries(Map.entry("schools", new int[] {4}), Map.entry("those that are there", new int[] {3}),
            Map.entry("judges", new int[] {6}), Map.entry("kin", new int[] {1}), Map.entry("rounds", new int[] {2}),
            Map.entry("ballots", new int[] {5}), Map.entry("witnesses", new int[] {7}), Map.entry("implications", new int[] {8}),
            Map.entry("rules", new int[] {9}), Map.entry("bytes of the tape", new int[] {11}),
            Map.entry("questions put", new int[] {10})));

    static {
        OTHERS.put("school -5", x -> x.school());
        OTHERS.put("gone -2", x -> x.gone(14, true));
        OTHERS.put("judge -5", x -> x.judge());
        OTHERS.put("kin -2", x -> x.kin(20, 0));
        OTHERS.put("kin -5", x -> x.kin(0, 0));
        OTHERS.put("rooms -1", x -> x.rooms(8));
        OTHERS.put("pair -1", x -> x.pair(100001));
        OTHERS.put("pair -3", x -> x.pair(0));
        OTHERS.put("pair -5", x -> x.pair(0));
        OTHERS.put("trial -1", x -> x.trial(1, 0, 0));
        OTHERS.put("ballot -1", x -> x.ballot(0, 0, 0, 101, 0, 0));
        OTHERS.put("ballot -2", x -> x.ballot(1, 0, 0, 0, 0, 0));
        OTHERS.put("ballot -3", x -> x.ballot(0, 0, 19, 0, 0, 0));
        OTHERS.put("ballot -5", x -> x.ballot(0, 0, 0, 0, 0, 0));
        OTHERS.put("counts -1", x -> x.counts(0, 0, 0, 0, 0));
        OTHERS.put("of -1", x -> x.of(13, 0, 4));
        OTHERS.put("of -1000000", x -> x.of(14, 0, 0));
        OTHERS.put("at -1", x -> x.at(13, 0));
        OTHERS.put("span -1", x -> x.span(20, 0));
        OTHERS.put("met -1", x -> x.met(0, 14));
        OTHERS.put("witness -5", x -> x.witness(0));
        OTHERS.put("implies -1", x -> x.implies(0, 32));
        OTHERS.put("implies -5", x -> x.implies(0, 0));
        OTHERS.put("implied 0", x -> x.implied(10));
        OTHERS.put("feed -1", x -> x.feed(0, 0, 0, 0, 0));
        OTHERS.put("end -1", x -> x.end(401));
        OTHERS.put("rules -6", x -> x.rules());
        OTHERS.put("fault -1", x -> x.fault());
        OTHERS.put("object -1", x -> x.object(4, 0, 0, true));
        OTHERS.put("ask -1", x -> x.ask(0, 32));
        OTHERS.put("ask -2", x -> x.ask(10, 0));
        OTHERS.put("count -1", x -> x.count(11));
    }

    public static void main(String[] args) throws IOException, ReflectiveOperationException {
        String page = Files.readString(Path.of("README.md"));
        examplesSeeFaults();
        examples(page);
        table(page);
        numbersOfWhat(page);
        says(page);
        tests(page);
        due.finish();
    }

    private static String example(String... lines) {
        return "A line.\n```java\nMockTrials week = new MockTrials();\n" + String.join("\n", lines) + "\n```\nweek.at(0, 0); // 9\n";
    }

    private static void faultsAre(String name, String page, int looked, String... faults) throws IOException, ReflectiveOperationException {
        Examples examples = new Examples(page);
        due.is(name + ": answers looked at", examples.run(), looked);
        due.is(name + ": faults, in all " + examples.faults, examples.faults.size(), faults.length);
        for (int i = 0; i < Math.min(faults.length, examples.faults.size()); i++) {
            due.is(name + ": " + examples.faults.get(i), examples.faults.get(i).startsWith(faults[i]) ? 1 : 0, 1);
        }
    }

    /** A wrong example must be found, or the right ones show nothing. */
    private static void examplesSeeFaults() throws IOException, ReflectiveOperationException {
        faultsAre("all is right", example("int a = week.school(); // 0", "", "week.gone(a, true);   // 0: it is gone"), 2);
        faultsAre("a wrong answer", example("week.school(); // 0", "week.school(); // 2", "week.school(); // 2: so"), 3,
            "line 5 tells 2, the answer is 1");
        faultsAre("a wrong answer by name", example("int a = week.judge(); // -1: NONE"), 1, "line 4 tells -1, the answer is 0");
        faultsAre("a wrong answer of the second", example("week.school(); // 0") + example("week.school(); // 1"), 2,
            "line 10 tells 1, the answer is 0");
        faultsAre("no answer", example("week.school();", "week.school(); // 1"), 1, "line 4 tells no answer", "line 5 tells 1, the answer is 0");
        faultsAre("words for an answer", example("week.school(); // none"), 0, "line 4 tells no answer");
        faultsAre("no such call", example("week.schools(); // 0"), 0, "the examples do not compile");
        faultsAre("a function", "```java\nstatic int two() {\n    return 2;\n}\n```\n" + example("week.rooms(two()); // 7", "week.rooms(3); // 2"), 2);
    }

    private static void examples(String page) throws IOException, ReflectiveOperationException {
        Examples examples = new Examples(page);
        int looked = examples.run();
        for (String fault : examples.faults) {
            due.tell("README.md, " + fault);
        }
        due.is("answers told and looked at", looked, examples.calls.size());
        due.is("an object, rounds, ballots, witnesses, the tape, rules, refused calls", examples.many, 7);
        for (String name : publicCalls()) {
            boolean shown = examples.calls.stream().anyMatch(call -> call.contains("week." + name + "("));
            due.is("an example shows " + name, shown ? 1 : 0, 1);
        }
        for (int code : new int[] {-1, -2, -3, -5, -6}) {
            due.is("an example is refused by " + code, page.contains("// " + code + ": ") ? 1 : 0, 1);
        }
    }

    private static Set<String> publicCalls() {
        return Arrays.stream(MockTrials.class.getDeclaredMethods()).filter(m -> Modifier.isPublic(m.getModifiers()))
            .map(Method::getName).collect(Collectors.toCollection(TreeSet::new));
    }

    /** Each row: the call as the class has it, and every other answer that it is said to give. */
    private static void table(String page) {
        Set<String> calls = new TreeSet<>();
        Set<String> told = new TreeSet<>();
        for (String line : page.lines().filter(l -> l.startsWith("| `")).toList()) {
            String[] cells = line.split(" *\\| *", -1);
            Matcher m = Pattern.compile("`(\\w+)\\(([^)]*)\\)`").matcher(cells[1]);
            due.is("cells of " + line, cells.length, 6);
            due.is("a call: " + line, m.matches() ? 1 : 0, 1);
            String name = m.group(1);
            due.is("one row of " + name, calls.add(name) ? 1 : 0, 1);
            parameters(name, m.group(2));
            for (int code : numbers(cells[3])) {
                told.add(name + " " + code);
                otherAnswer(name, code, code);
            }
            for (int answer : numbers(cells[4])) {
                told.add(name + " " + answer);
                otherAnswer(name, answer, 0);
            }
        }
        due.is("a row for each call: " + calls, calls.equals(publicCalls()) ? 1 : 0, 1);
        due.is("all other answers: " + told, told.equals(OTHERS.keySet()) ? 1 : 0, 1);
    }

    private static void otherAnswer(String name, int answer, int status) {
        String key = name + " " + answer;
        if (!OTHERS.containsKey(key)) {
            due.tell("README.md tells an answer that no test looks at: " + key);
            return;
        }
        MockTrials x = STARTS.getOrDefault(key, ReadmeTest::full).get();
        due.is(key, OTHERS.get(key).on(x), answer);
        due.is("status() behind " + key, x.status(), status);
    }

    private static void parameters(String name, String told) {
        for (Method m : MockTrials.class.getDeclaredMethods()) {
            if (m.getName().equals(name)) {
                due.is("parameters of " + name, told.isEmpty() ? 0 : told.split(", ").length, m.getParameterCount());
            }
        }
    }

    private static Set<Integer> numbers(String cell) {
        Set<Integer> all = new TreeSet<>();
        for (String word : cell.replace("NONE", "-1").split("[ ,]+")) {
            if (!word.isEmpty()) {
                all.add(Integer.parseInt(word));
            }
        }
        return all;
    }

    /** One round is made, one school gone; no room for more people, kin, witnesses, implications, bytes. */
    private static MockTrials full() {
        MockTrials x = Due.with(14, 20);
        for (int i = 0; i < 60; i++) {
            x.kin(i / 14 + 10, i % 14);
        }
        x.pair(0);
        for (int i = 0; i < 10; i++) {
            x.witness(i);
        }
        for (int i = 0; i < 40; i++) {
            x.implies(1, i % 32);
        }
        for (int i = 0; i < 20; i++) {
            x.feed(0x3f3f3f3f, 0, 0, 0, 0);
        }
        x.rooms(2);
        x.gone(13, true);
        return x;
    }

    private static MockTrials fullOfBallots() {
        MockTrials x = Due.with(2, 2);
        x.pair(0);
        for (int i = 0; i < 400; i++) {
            x.ballot(0, 0, i % 2, 50, 60, i);
        }
        return x;
    }

    /** What is asked for by a number: the words of the table stand for the answers that are due. */
    private static void numbersOfWhat(String page) {
        MockTrials x = numbered();
        Map<String, Set<String>> told = new TreeMap<>();
        for (String line : page.lines().filter(l -> l.startsWith("| `")).toList()) {
            String[] cells = line.split(" *\\| *", -1);
            String name = cells[1].substring(1, cells[1].indexOf('('));
            String[] parts = cells[2].split("; for t -1: ");
            for (int t = 0; t > -parts.length; t--) {
                Matcher m = Pattern.compile("(?:what|side|,) (\\d+) ([a-z ]+)").matcher(parts[-t]);
                while (m.find()) {
                    String words = m.group(2).trim();
                    told.computeIfAbsent(name, n -> new TreeSet<>()).add(words);
                    String got = Arrays.toString(asked(x, name, t, Integer.parseInt(m.group(1))));
                    String want = Arrays.toString(WORDS.getOrDefault(name, Map.of()).get(words));
                    due.is(name + " " + m.group(1) + " is " + words + ": " + got, got.equals(want) ? 1 : 0, 1);
                }
            }
        }
        for (Map.Entry<String, Map<String, int[]>> call : WORDS.entrySet()) {
            due.is("numbers of " + call.getKey() + " are all told", call.getValue().keySet().equals(told.get(call.getKey())) ? 1 : 0, 1);
        }
    }

    /** So much that no two words have the same answers. */
    private static int[] asked(MockTrials x, String name, int t, int what) {
        switch (name) {
            case "trial": return new int[] {x.trial(0, t, what), x.trial(1, t, what)};
            case "counts": return new int[] {x.counts(0, 0, 1, what, 1)};
            case "of": return new int[] {x.of(0, 1, what), x.of(1, 1, what), x.of(2, 1, what)};
            case "count": return new int[] {x.count(what)};
            default: return null;
        }
    }

    /** Two rounds of three schools: 0 beats 1 while 2 has the bye, then 2 beats 0 while 1 has it. */
    private static MockTrials numbered() {
        MockTrials x = Due.with(4, 6);
        x.gone(3, true);
        x.kin(0, 0);
        x.pair(0);
        x.ballot(0, 0, 1, 10, 10, 1);
        x.ballot(0, 0, 1, 80, 60, 1);
        x.ballot(0, 0, 2, 10, 10, 1);
        x.ballot(0, 0, 2, 70, 60, 1);
        x.pair(1);
        x.ballot(1, 0, 3, 70, 60, 1);
        for (int i = 0; i < 7; i++) {
            x.witness(0);
        }
        for (int i = 0; i < 8; i++) {
            x.implies(1, i);
        }
        Due.rules(x, Texts.times("sustain leading; ", 8) + "sustain leading");
        Due.text(x, Texts.times("x", 11));
        for (int i = 0; i < 10; i++) {
            x.ask(0, 0);
        }
        return x;
    }

    /** Answers that are told in words of their own. */
    private static void says(String page) {
        for (String words : List.of("at most 512 calls", "bash .ci/run", "`src/test/java`", "`../shared/tests`", "new MockTrials()")) {
            said(page, words, 0, 0);
        }
        MockTrials x = numbered();
        said(page, "`NONE` is -1", MockTrials.NONE, -1);
        said(page, "| 0; the school is gone, or there again |", x.gone(2, true), 0);
        said(page, "| 0; the school is gone, or there again |", x.gone(2, false), 0);
        said(page, "its place (the first is 0; ", x.of(x.at(0, 1), 1, 4), 0);
        said(page, "NONE if it is gone)", x.of(3, 1, 4), -1);
        said(page, "| 1 if sustained, 0 if not |", x.object(0, 0, 0, true), 1);
        said(page, "| 1 if sustained, 0 if not |", x.object(1, 0, 0, true), 0);
        said(page, "-1 a number that can't be;", x.rooms(0), -1);
        said(page, "| the code of the latest call that can be refused, or 0 |", x.status(), -1);
        said(page, "-2 there is no such school, judge,", x.kin(6, 0), -2);
        said(page, "school, judge,", x.kin(0, 4), -2);
        said(page, "round, trial or witness;", x.ballot(2, 0, 0, 0, 0, 0), -2);
        said(page, "trial or witness;", x.ballot(0, 1, 0, 0, 0, 0), -2);
        said(page, "or witness;", x.ask(7, 0), -2);
        said(page, "`status` tells the code of the latest call that can be refused,", x.status(), -2);
        said(page, "and 0 if it was not refused.", x.judge(), 6);
        said(page, "and 0 if it was not refused.", x.status(), 0);
        said(page, "-3 it can't be;", x.ballot(0, 0, 0, 0, 0, 0), -3);
        said(page, "-5 no room;", full().school(), -5);
        said(page, "-6 a text that can't be (by which alone the tape is emptied and `fault` is told).", x.rules(), -6);
        said(page, "the tape is emptied", x.count(9), 0);
        said(page, "`fault` is told", x.fault(), 0);
    }

    private static void said(String page, String words, int got, int want) {
        due.is("README.md says \"" + words + "\"", page.replaceAll("\\s+", " ").contains(words) ? 1 : 0, 1);
        due.is(words, got, want);
    }

    private static void tests(String page) throws IOException {
        Set<String> files = new TreeSet<>();
        try (var all = Files.list(TESTS)) {
            all.forEach(file -> files.add(file.getFileName().toString().replace(".java", "")));
        }
        for (String file : files) {
            due.is("README.md names " + file, page.contains("`" + file + "`") ? 1 : 0, 1);
        }
        Matcher named = Pattern.compile("`(\\w+Test)`").matcher(page);
        while (named.find()) {
            due.is("there is a test " + named.group(1), files.contains(named.group(1)) ? 1 : 0, 1);
        }
    }
}
