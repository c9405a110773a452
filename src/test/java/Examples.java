import java.io.File;
import java.io.IOException;
import java.io.StringWriter;
import java.net.URI;
import java.net.URL;
import java.net.URLClassLoader;
import java.nio.file.Files;
import java.nio.file.Path;
import java.util.ArrayList;
import java.util.List;
import java.util.regex.Matcher;
import java.util.regex.Pattern;
import javax.tools.JavaCompiler;
import javax.tools.SimpleJavaFileObject;
import javax.tools.ToolProvider;

/**
 * The Java blocks of a page like README.md. A block that begins with "static" has functions for the
 * others; every other block is an example of its own, in which each call must tell its answer behind
 * "//". The examples are compiled as they stand, with a comparison around each call.
 */
final class Examples {
    private static final String NAME = "PageExamples";
    private static final Pattern TOLD = Pattern.compile("(int \\w+ = )?(.+\\));\\s+// (-?\\d+)(: .+)?");
    private static final String MADE = "MockTrials week = new MockTrials();";

    /** What is wrong: a line that tells no answer, a page that does not compile, an answer that is not given. */
    final List<String> faults = new ArrayList<>();
    /** The calls that tell an answer, as they stand on the page. */
    final List<String> calls = new ArrayList<>();
    int many;
    private final StringBuilder functions = new StringBuilder();
    private final StringBuilder bodies = new StringBuilder();

    Examples(String page) {
        List<String> lines = page.lines().toList();
        for (int i = 0; i < lines.size(); i++) {
            if (lines.get(i).equals("```java")) {
                int end = i + 1;
                while (end < lines.size() && !lines.get(end).equals("```")) {
                    end++;
                }
                addBlock(lines.subList(i + 1, end), i + 2);
                i = end;
            }
        }
    }

    private void addBlock(List<String> block, int firstLine) {
        if (!block.isEmpty() && block.get(0).startsWith("static ")) {
            functions.append(String.join("\n", block)).append('\n');
            return;
        }
        bodies.append("static void example").append(many).append("() {\n");
        many++;
        for (int i = 0; i < block.size(); i++) {
            bodies.append(lookedAt(block.get(i), firstLine + i)).append('\n');
        }
        bodies.append("}\n");
    }

    private String lookedAt(String line, int number) {
        if (line.isBlank() || line.equals(MADE)) {
            return line;
        }
        Matcher m = TOLD.matcher(line);
        if (!m.matches()) {
            faults.add("line " + number + " tells no answer: " + line);
            return "";
        }
        calls.add(m.group(2));
        String named = m.group(1) == null ? "" : m.group(1);
        return named + "is(" + number + ", " + m.group(2) + ", " + m.group(3) + ");";
    }

    private String program() {
        StringBuilder all = new StringBuilder("public final class " + NAME + " {\n");
        all.append("public static final java.util.List<String> WRONG = new java.util.ArrayList<>();\n");
        all.append("public static int looked = 0;\n");
        all.append("static int is(int line, int got, int told) {\n  looked++;\n");
        all.append("  if (got != told) { WRONG.add(\"line \" + line + \" tells \" + told + \", the answer is \" + got); }\n");
        all.append("  return got;\n}\n");
        all.append("public static void run() {\n");
        for (int i = 0; i < many; i++) {
            all.append("  example").append(i).append("();\n");
        }
        return all.append("}\n").append(functions).append(bodies).append("}\n").toString();
    }

    /** Runs all examples: how many answers were looked at. */
    int run() throws IOException, ReflectiveOperationException {
        Path folder = Files.createTempDirectory("examples");
        try {
            return compile(folder) ? runIn(folder) : 0;
        } finally {
            for (File file : folder.toFile().listFiles()) {
                file.delete();
            }
            Files.delete(folder);
        }
    }

    private boolean compile(Path folder) {
        JavaCompiler compiler = ToolProvider.getSystemJavaCompiler();
        if (compiler == null) {
            faults.add("there is no compiler in this Java");
            return false;
        }
        StringWriter said = new StringWriter();
        List<String> options = List.of("-d", folder.toString(), "-cp", System.getProperty("java.class.path"));
        if (!compiler.getTask(said, null, null, options, null, List.of(new Source(program()))).call()) {
            faults.add("the examples do not compile: " + said);
            return false;
        }
        return true;
    }

    private int runIn(Path folder) throws IOException, ReflectiveOperationException {
        try (URLClassLoader loader = new URLClassLoader(new URL[] {folder.toUri().toURL()})) {
            Class<?> made = loader.loadClass(NAME);
            made.getMethod("run").invoke(null);
            for (Object wrong : (List<?>) made.getField("WRONG").get(null)) {
                faults.add((String) wrong);
            }
            return made.getField("looked").getInt(null);
        }
    }

    /** The program as the compiler wants it. */
    private static final class Source extends SimpleJavaFileObject {
        private final String text;

        Source(String text) {
            super(URI.create("string:///" + NAME + ".java"), Kind.SOURCE);
            this.text = text;
        }

        @Override
        public CharSequence getCharContent(boolean ignoreEncodingErrors) {
            return text;
        }
    }
}
