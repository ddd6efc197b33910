import java.lang.reflect.Method;
import java.nio.charset.StandardCharsets;
import java.nio.file.Files;
import java.nio.file.Path;
import java.util.HashMap;
import java.util.LinkedHashMap;
import java.util.List;
import java.util.Map;
import java.util.Set;
import java.util.TreeSet;
import java.util.regex.Matcher;
import java.util.regex.Pattern;
import java.util.stream.Collectors;
import java.util.stream.Stream;

/** README.md: its examples answer what they say; its tables and lists leave out nothing and add nothing. */
public final class ReadmeTest {
    private static final List<String> FINDINGS = List.of("BEYOND", "FULL", "KIND", "NONE", "STATE", "MISSING", "SIZE");
    private static int asked = 0;
    private static int wrong = 0;

    private static void must(boolean so, String what) {
        asked++;
        if (!so) {
            wrong++;
            System.out.println("README.md: " + what);
        }
    }

    private static String textOf(String path) throws Exception {
        return Files.readString(Path.of(path), StandardCharsets.UTF_8);
    }

    // ---- the examples

    private static long valueOf(String argument, Map<String, Long> named) {
        return named.containsKey(argument) ? named.get(argument) : Long.decode(argument);
    }

    private static long answer(FogKept x, String name, String[] arguments, Map<String, Long> named) throws Exception {
        for (Method m : FogKept.class.getMethods()) {
            if (m.getDeclaringClass() == FogKept.class && m.getName().equals(name) && m.getParameterCount() == arguments.length) {
                Object[] given = new Object[arguments.length];
                for (int i = 0; i < given.length; i++) {
                    long v = valueOf(arguments[i], named);
                    if (m.getParameterTypes()[i] == long.class) {
                        given[i] = v;
                    } else {
                        given[i] = (int) v;
                    }
                }
                return ((Number) m.invoke(x, given)).longValue();
            }
        }
        throw new IllegalStateException("no call " + name + " of " + arguments.length);
    }

    /** A line is "[int name =] x.call(arguments);  // answer: why". */
    private static void example(String block) throws Exception {
        Pattern line = Pattern.compile("(?:int (\\w+) = )?x\\.(\\w+)\\(([^)]*)\\); *// (-?\\d+): .+");
        String[] lines = block.strip().split("\n");
        must(lines[0].equals("FogKept x = new FogKept();"), "an example that makes no object");
        FogKept x = new FogKept();
        Map<String, Long> named = new HashMap<>();
        for (int i = 1; i < lines.length; i++) {
            Matcher m = line.matcher(lines[i]);
            must(m.matches(), "a line that tells no answer: " + lines[i]);
            if (m.matches()) {
                String[] arguments = m.group(3).isEmpty() ? new String[0] : m.group(3).split(", ");
                long got = answer(x, m.group(2), arguments, named);
                must(got == Long.parseLong(m.group(4)), lines[i] + " answered " + got);
                if (m.group(1) != null) {
                    named.put(m.group(1), got);
                }
            }
        }
    }

    private static void examples(String readme) throws Exception {
        Matcher m = Pattern.compile("```java\n(.*?)```", Pattern.DOTALL).matcher(readme);
        int many = 0;
        while (m.find()) {
            example(m.group(1));
            many++;
        }
        must(many > 0, "no examples");
    }

    // ---- the calls

    /** Each call of the document's face with the names of its arguments, as "fog(hours)". */
    private static Map<String, String> callsOfDocument(String doc) {
        Map<String, String> calls = new LinkedHashMap<>();
        Matcher m = Pattern.compile("^    public (?:int|long) (\\w+)\\(([^)]*)\\);$", Pattern.MULTILINE).matcher(doc);
        while (m.find()) {
            calls.put(m.group(1), m.group(1) + "(" + m.group(2).replaceAll("(int|long) ", "") + ")");
        }
        return calls;
    }

    /** The findings that a promise tells: those that a sentence begins with (or that are one). */
    private static Set<String> findingsOfPromise(String doc, String call) {
        Matcher m = Pattern.compile("## Promise \\d+: " + call + "\n\n`[^`]*`: ([^\n]*)").matcher(doc);
        Set<String> findings = new TreeSet<>();
        String told = m.find() ? m.group(1) : "";
        Matcher f = Pattern.compile("(?<=\\. )(" + String.join("|", FINDINGS) + ")(?=[.:]| \\()").matcher(told);
        while (f.find()) {
            findings.add(f.group(1));
        }
        return findings;
    }

    private static Map<String, String[]> rows(String readme, String heading) {
        Map<String, String[]> rows = new LinkedHashMap<>();
        int from = readme.indexOf("\n## " + heading);
        must(from >= 0, "no part '" + heading + "'");
        int to = from < 0 ? -1 : readme.indexOf("\n## ", from + 1);
        String part = from < 0 ? "" : readme.substring(from, to < 0 ? readme.length() : to);
        for (String line : part.split("\n")) {
            String[] cells = line.split(" *\\| *", -1);
            if (line.startsWith("| ") && cells.length > 3 && !cells[1].startsWith("---") && !cells[2].equals("answer")) {
                must(rows.put(cells[1].replace("`", ""), cells) == null, "twice: " + cells[1]);
            }
        }
        return rows;
    }

    private static void calls(String readme, String doc) {
        Map<String, String> face = callsOfDocument(doc);
        Map<String, String[]> rows = rows(readme, "What the calls answer");
        must(face.size() == 38, "the document's face has " + face.size() + " calls");
        must(List.copyOf(rows.keySet()).equals(List.copyOf(face.values())), "the calls are " + rows.keySet() + ", due are " + face.values());
        for (Map.Entry<String, String> call : face.entrySet()) {
            String[] cells = rows.get(call.getValue());
            Set<String> due = findingsOfPromise(doc, call.getKey());
            // That BEYOND is told ahead of the table, for arguments, is so: a call with arguments has it, no other.
            must(due.remove("BEYOND") == !call.getValue().endsWith("()"), call + " and BEYOND");
            Set<String> told = cells == null ? Set.of()
                : Stream.of(cells[3].split("\\W+")).filter(FINDINGS::contains).collect(Collectors.toSet());
            must(told.equals(due), call.getValue() + " tells " + told + ", due is " + due);
        }
    }

    private static void findings(String readme, String doc) {
        Map<String, String[]> rows = rows(readme, "What the findings mean");
        must(List.copyOf(rows.keySet()).equals(FINDINGS), "the findings are " + rows.keySet());
        for (String[] cells : rows.values()) {
            must(doc.contains(cells[2] + " " + cells[1]), cells[1] + " is " + cells[2]);
            must(cells[3].equals(String.valueOf(FINDINGS.indexOf(cells[1]))), cells[1] + " is counted by " + cells[3]);
        }
    }

    // ---- the tests

    private static void tests(String readme) throws Exception {
        Set<String> listed = new TreeSet<>();
        Matcher m = Pattern.compile("^- `(\\w+Test)`: ", Pattern.MULTILINE).matcher(readme);
        while (m.find()) {
            listed.add(m.group(1));
        }
        try (Stream<Path> files = Files.list(Path.of("src/test/java"))) {
            Set<String> due = files.map(f -> f.getFileName().toString().replace(".java", "")).collect(Collectors.toSet());
            must(listed.equals(due), "the tests are " + listed + ", due are " + due);
        }
        must(readme.contains("\n    .ci/run\n") && Files.isExecutable(Path.of(".ci/run")), "how the tests are run");
    }

    public static void main(String[] args) throws Exception {
        String readme = textOf("README.md");
        String doc = textOf("../shared/DOC.md");
        examples(readme);
        calls(readme, doc);
        findings(readme, doc);
        tests(readme);
        System.out.println("README.md: " + asked + " asked, " + wrong + " not as due");
        if (wrong != 0) {
            System.exit(1);
        }
    }
}
