import java.io.IOException;
import java.lang.management.ManagementFactory;
import java.lang.reflect.Constructor;
import java.lang.reflect.Field;
import java.lang.reflect.Method;
import java.lang.reflect.Modifier;
import java.nio.charset.StandardCharsets;
import java.nio.file.Files;
import java.nio.file.Path;
import java.util.Arrays;
import java.util.Set;
import java.util.TreeSet;
import java.util.regex.Matcher;
import java.util.regex.Pattern;

/** What LANGUAGE.md rules out, as far as the source and the compiled class show it. */
final class LanguageTest {
    private static final String[] FACE = {"int school()", "int gone(int,boolean)", "int judge()", "int kin(int,int)",
        "int rooms(int)", "int pair(int)", "int trial(int,int,int)", "int ballot(int,int,int,int,int,int)",
        "int counts(int,int,int,int,int)", "int of(int,int,int)", "int at(int,int)", "int span(int,int)",
        "int met(int,int)", "int witness(int)", "int implies(int,int)", "int implied(int)",
        "int feed(int,int,int,int,int)", "int end(int)", "int rules()", "int fault()",
        "int object(int,int,int,boolean)", "int ask(int,int)", "int count(int)", "int status()"};
    private static final String[] RULED_OUT = {"\\bthrow\\b", "\\btry\\b", "\\bcatch\\b", "\\bsynchronized\\b",
        "\\bassert\\b", "->", "::", "Exact\\b", "\\.values\\(", "\\bSystem\\.(?!arraycopy)", "\\bpackage\\b",
        "for \\(;", "while \\(true", "static \\{", "\\bObject\\b", "\\bvar\\b"};

    private static final Due due = new Due();
    private static final com.sun.management.ThreadMXBean COUNTER =
        (com.sun.management.ThreadMXBean) ManagementFactory.getThreadMXBean();

    public static void main(String[] args) throws IOException {
        face();
        String source = Files.readString(Path.of("src/main/java/MockTrials.java"), StandardCharsets.ISO_8859_1);
        String code = source.replaceAll("(?s)/\\*.*?\\*/", "").replaceAll("//[^\n]*", "");
        for (String word : RULED_OUT) {
            due.is("the source has " + word, Pattern.compile(word).matcher(code).find() ? 1 : 0, 0);
        }
        due.is("imports of Arrays alone", count(code, "\\bimport\\b"), count(code, "import java\\.util\\.Arrays;"));
        methods(source);
        classes();
        objectsOfCalls();
        due.finish();
    }

    private static int count(String text, String pattern) {
        Matcher m = Pattern.compile(pattern).matcher(text);
        int many = 0;
        while (m.find()) {
            many++;
        }
        return many;
    }

    private static void face() {
        Set<String> seen = new TreeSet<>();
        Set<String> names = new TreeSet<>();
        for (Method m : MockTrials.class.getDeclaredMethods()) {
            if (!Modifier.isPrivate(m.getModifiers())) {
                due.is(m + " is public and no static", m.getModifiers(), Modifier.PUBLIC);
                String types = Arrays.stream(m.getParameterTypes()).map(Class::getSimpleName).reduce((a, b) -> a + "," + b).orElse("");
                seen.add(m.getReturnType().getSimpleName() + " " + m.getName() + "(" + types + ")");
                names.add(m.getName());
            }
        }
        due.is("the face is the document's: " + seen, seen.equals(new TreeSet<>(Arrays.asList(FACE))) ? 1 : 0, 1);
        for (Method m : MockTrials.class.getDeclaredMethods()) {
            boolean twice = Modifier.isPrivate(m.getModifiers()) && names.contains(m.getName());
            due.is(m + " bears a public name", twice ? 1 : 0, 0);
        }
        for (Field f : MockTrials.class.getDeclaredFields()) {
            boolean open = !Modifier.isPrivate(f.getModifiers());
            due.is(f + " is NONE or private", open && !f.getName().equals("NONE") ? 1 : 0, 0);
        }
        Constructor<?>[] made = MockTrials.class.getDeclaredConstructors();
        due.is("constructors", made.length, 1);
        due.is("a public one", made[0].getModifiers(), Modifier.PUBLIC);
        due.is("the class", MockTrials.class.getModifiers(), Modifier.PUBLIC | Modifier.FINAL);
        due.is("NONE", MockTrials.NONE, -1);
    }

    private static void classes() {
        Class<?>[] inside = MockTrials.class.getDeclaredClasses();
        due.is("at most twelve classes", inside.length + 1 <= 12 ? 1 : 0, 1);
        for (Class<?> c : inside) {
            due.is(c + " is static", Modifier.isStatic(c.getModifiers()) ? 1 : 0, 1);
            int fields = 0;
            for (Field f : c.getDeclaredFields()) {
                boolean still = Modifier.isStatic(f.getModifiers());
                due.is(f + " is final if static", still && !Modifier.isFinal(f.getModifiers()) ? 1 : 0, 0);
                fields += still ? 0 : 1;
            }
            due.is(c + " has at most twenty fields", fields <= 20 ? 1 : 0, 1);
        }
    }

    /** Methods begin and end by the file's own layout: their head and their last bracket stand alike. */
    private static void methods(String source) {
        String[] lines = source.split("\n");
        for (int i = 0; i < lines.length; i++) {
            Matcher m = Pattern.compile("^( +)[\\w\\[\\] ]+\\(([^()]*)\\) \\{$").matcher(lines[i]);
            if (!m.find() || lines[i].matches(" +(if|for|while|switch) .*")) {
                continue;
            }
            int end = i;
            while (end < lines.length - 1 && !lines[end].equals(m.group(1) + "}")) {
                end++;
            }
            due.is("lines of" + lines[i] + " are too many", end - i > 60 ? end - i : 0, 0);
            due.is("parameters of" + lines[i], m.group(2).split(",").length <= 7 ? 1 : 0, 1);
        }
    }

    /** The room is shared by all calls of a run: no call may take of it. */
    private static void objectsOfCalls() {
        // The first times the machine makes texts of the class and the counter's own rows.
        long least = bytesOfWeek();
        for (int i = 0; i < 5; i++) {
            least = Math.min(least, bytesOfWeek());
        }
        due.is("bytes that calls took", least, 0);
    }

    private static long bytesOfWeek() {
        MockTrials x = new MockTrials();
        long start = COUNTER.getCurrentThreadAllocatedBytes();
        week(x);
        return COUNTER.getCurrentThreadAllocatedBytes() - start;
    }

    private static void week(MockTrials x) {
        for (int i = 0; i < 14; i++) {
            x.school();
            x.judge();
            x.witness(i);
            x.kin(i, i);
            x.implies(i, i);
        }
        for (int round = 0; round < 8; round++) {
            x.pair(round);
            for (int t = 0; t < 7; t++) {
                x.ballot(round, t, x.trial(round, t, 3), 40 + t, 50, round);
                x.of(t, round, t);
                x.at(t, round);
                x.span(t, round);
                x.met(t, round);
                x.counts(round, t, 0, 0, 0);
            }
            x.gone(round, true);
            x.feed(1937077108, 1634299424, 1818583396, 1768843040, 1768300576 + round);
            x.end(15 + round % 6);
            x.rules();
            x.fault();
            x.object(round % 4, 0, round, true);
            x.ask(0, round);
            x.implied(0);
            x.count(round);
            x.status();
        }
    }
}
