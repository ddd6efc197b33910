import java.lang.management.ManagementFactory;
import java.lang.reflect.Constructor;
import java.lang.reflect.Field;
import java.lang.reflect.Method;
import java.lang.reflect.Modifier;
import java.nio.charset.StandardCharsets;
import java.nio.file.Files;
import java.nio.file.Path;
import java.util.ArrayList;
import java.util.Arrays;
import java.util.List;
import java.util.Map;
import java.util.Set;
import java.util.TreeMap;
import java.util.TreeSet;
import java.util.regex.Matcher;
import java.util.regex.Pattern;

/** The face, the rules of LANGUAGE.md that can be seen, odd arguments of all calls, and no objects made by calls. */
public final class LanguageTest {
    private static int wrong = 0;
    /** So that the loops whose making of objects is measured have a use. */
    private static long sum = 0;

    private static void must(boolean so, String what) {
        if (!so) {
            wrong++;
            System.out.println(what);
        }
    }

    private static String signature(String name, Class<?> type, Class<?>[] parameters) {
        StringBuilder b = new StringBuilder(type == null ? "" : type.getName() + " ").append(name).append('(');
        for (Class<?> p : parameters) {
            b.append(p.getName()).append(' ');
        }
        return b.append(')').toString();
    }

    private static Set<String> faceOfDocument() throws Exception {
        String doc = Files.readString(Path.of("../shared/DOC.md"), StandardCharsets.UTF_8);
        Set<String> face = new TreeSet<>();
        Matcher m = Pattern.compile("^    public ((?:int|long) )?(\\w+)\\(([^)]*)\\);$", Pattern.MULTILINE).matcher(doc);
        while (m.find()) {
            StringBuilder b = new StringBuilder(m.group(1) == null ? "" : m.group(1)).append(m.group(2)).append('(');
            for (String p : m.group(3).isEmpty() ? new String[0] : m.group(3).split(", ")) {
                b.append(p.split(" ")[0]).append(' ');
            }
            face.add(b.append(')').toString());
        }
        return face;
    }

    private static void face() throws Exception {
        Set<String> due = faceOfDocument();
        Set<String> is = new TreeSet<>();
        Set<String> names = new TreeSet<>();
        must(due.size() == 39, "the document's face has " + due.size() + " members");
        for (Constructor<?> c : FogKept.class.getDeclaredConstructors()) {
            is.add(signature("FogKept", null, c.getParameterTypes()));
        }
        for (Method m : FogKept.class.getDeclaredMethods()) {
            if (Modifier.isPublic(m.getModifiers())) {
                is.add(signature(m.getName(), m.getReturnType(), m.getParameterTypes()));
                names.add(m.getName());
            }
        }
        must(is.equals(due), "the face is " + is);
        must(Modifier.isFinal(FogKept.class.getModifiers()) && Modifier.isPublic(FogKept.class.getModifiers()), "the class is not public and final");
        List<Class<?>> all = new ArrayList<>(Arrays.asList(FogKept.class.getDeclaredClasses()));
        must(all.size() < 12, "too many classes");
        for (Class<?> c : all) {
            must(Modifier.isStatic(c.getModifiers()), c + " is not static");
            must(!Modifier.isPublic(c.getModifiers()) && !Modifier.isProtected(c.getModifiers()), c + " is in the face");
        }
        all.add(FogKept.class);
        for (Class<?> c : all) {
            members(c, names);
        }
    }

    private static void members(Class<?> c, Set<String> names) {
        int fields = 0;
        for (Field f : c.getDeclaredFields()) {
            int m = f.getModifiers();
            fields += Modifier.isStatic(m) ? 0 : 1;
            must(!Modifier.isStatic(m) || Modifier.isFinal(m), f + " is static and not final");
            must(c != FogKept.class || Modifier.isPrivate(m), f + " is not private");
        }
        must(fields <= 20, c + " has " + fields + " fields");
        for (Method m : c.getDeclaredMethods()) {
            boolean isPublic = Modifier.isPublic(m.getModifiers());
            must(c != FogKept.class || isPublic || Modifier.isPrivate(m.getModifiers()), m + " is not private");
            must(c == FogKept.class && isPublic || !names.contains(m.getName()), m + " bears a public name");
            must(m.getParameterCount() <= 7, m + " takes too much");
        }
    }

    private static String withoutCommentsAndTexts(String source) {
        return source.replaceAll("(?s)/\\*.*?\\*/", "").replaceAll("//[^\n]*", "").replaceAll("\"[^\"\n]*\"", "\"\"");
    }

    private static void text() throws Exception {
        String source = Files.readString(Path.of("src/main/java/FogKept.java"), StandardCharsets.ISO_8859_1);
        must(source.chars().allMatch(c -> c == '\n' || c >= 32 && c < 127), "a sign that is not plain");
        String code = withoutCommentsAndTexts(source);
        Matcher words = Pattern.compile("\\b(throw|throws|try|catch|finally|synchronized|assert|import|package|var|Object|float|double"
            + "|volatile|transient|native|protected|super|equals|hashCode|toString|Exception|Error)\\b|->|::|@").matcher(code);
        while (words.find()) {
            must(false, "the text has " + words.group());
        }
        Matcher library = Pattern.compile("\\b([A-Z][a-z]\\w*)\\.(\\w+)").matcher(code);
        Set<String> allowed = Set.of("System.arraycopy", "Integer.bitCount", "Math.min");
        while (library.find()) {
            must(allowed.contains(library.group()), "the text uses " + library.group());
        }
        must(!Pattern.compile("\\[\\]\\s*\\[\\]").matcher(code).find(), "an array of arrays");
        methodLengths(source);
        callDepths(code);
        interfaceSays(source);
    }

    private static void methodLengths(String source) {
        String[] lines = source.split("\n");
        for (int i = 0; i < lines.length; i++) {
            Matcher head = Pattern.compile("^(    |        )[a-z].*\\) \\{$").matcher(lines[i]);
            if (head.find()) {
                int end = i;
                while (end < lines.length && !lines[end].equals(head.group(1) + "}")) {
                    end++;
                }
                must(end - i <= 60, "long: " + lines[i].trim());
            }
        }
    }

    /** Which methods each method calls, by names, which must differ from each other. */
    private static Map<String, Set<String>> callsOf(String code) {
        Map<String, String> bodies = new TreeMap<>();
        Matcher heads = Pattern.compile("(?m)^( +)(?:(?:public|private|static|final) )*[\\w\\[\\]]+ (\\w+)\\([^)]*\\) \\{$").matcher(code);
        while (heads.find()) {
            int end = code.indexOf("\n" + heads.group(1) + "}", heads.end());
            must(bodies.put(heads.group(2), code.substring(heads.end(), end)) == null, "two methods " + heads.group(2));
        }
        Map<String, Set<String>> calls = new TreeMap<>();
        for (Map.Entry<String, String> body : bodies.entrySet()) {
            Set<String> called = new TreeSet<>();
            Matcher call = Pattern.compile("\\b(\\w+)\\(").matcher(body.getValue());
            while (call.find()) {
                if (bodies.containsKey(call.group(1))) {
                    called.add(call.group(1));
                }
            }
            calls.put(body.getKey(), called);
        }
        return calls;
    }

    private static int depth(String method, Map<String, Set<String>> calls, Set<String> open) {
        if (!open.add(method)) {
            must(false, method + " calls itself");
            return 1;
        }
        int below = 0;
        for (String called : calls.get(method)) {
            below = Math.max(below, depth(called, calls, open));
        }
        open.remove(method);
        return below + 1;
    }

    private static void callDepths(String code) {
        Map<String, Set<String>> calls = callsOf(code);
        must(calls.size() > 38, "only " + calls.size() + " methods found");
        for (String method : calls.keySet()) {
            int depth = depth(method, calls, new TreeSet<>());
            must(depth <= 8, method + " goes " + depth + " deep");
        }
    }

    /** The document's "Ahead of the calls .. the interface says" stands there, with these calls behind it. */
    private static void interfaceSays(String source) throws Exception {
        String doc = Files.readString(Path.of("../shared/DOC.md"), StandardCharsets.UTF_8);
        Matcher m = Pattern.compile("Ahead of the calls ([^\n]*) the interface says: (---- [^\n.]*)\\.").matcher(doc);
        int many = 0;
        while (m.find()) {
            int from = source.indexOf("    // " + m.group(2) + "\n");
            int to = from < 0 ? -1 : source.indexOf("    // ----", from + 1);
            must(from >= 0 && to >= 0, "nothing says " + m.group(2));
            List<String> behind = new ArrayList<>();
            Matcher call = Pattern.compile("(?m)^    public \\w+ (\\w+)\\(").matcher(to < 0 ? "" : source.substring(from, to));
            while (call.find()) {
                behind.add(call.group(1));
            }
            must(behind.equals(Arrays.asList(m.group(1).replace("`", "").split(", "))), "behind " + m.group(2) + " come " + behind);
            many++;
        }
        must(many == 7, "the interface says " + many + " things");
    }

    private static FogKept crowded() {
        FogKept x = new FogKept();
        x.fog(0x5a5a5a);
        for (int w = 0; w < 8; w++) {
            x.walker(w % 6, w * 5);
        }
        x.sheet(0, 8, 40);
        x.sheet(1, 64, 0);
        x.sheet(2, 64, 3);
        x.image();
        for (int i = 0; i < 30; i++) {
            x.feed(0x666f6720 + i, 4);
        }
        return x;
    }

    private static void oddCalls(int filled) throws Exception {
        int[] odd = {Integer.MIN_VALUE, -1000000001, -1, 0, 1, 3, 7, 8, 36, 41, 120, 16777216, Integer.MAX_VALUE};
        for (Method m : FogKept.class.getDeclaredMethods()) {
            if (!Modifier.isPublic(m.getModifiers())) {
                continue;
            }
            int n = m.getParameterCount();
            long combinations = Math.min((long) Math.pow(odd.length, n), 3000);
            FogKept x = null;
            for (int c = 0; c < combinations; c++) {
                x = c % 100 == 0 ? filled == 0 ? new FogKept() : crowded() : x;
                Object[] given = new Object[n];
                long rest = n > 3 ? c * 7919L + c * 104729L * c : c;
                for (int i = 0; i < n; i++) {
                    int v = odd[(int) Math.floorMod(rest, (long) odd.length)];
                    rest = Math.floorDiv(rest, (long) odd.length);
                    if (m.getParameterTypes()[i] == long.class) {
                        given[i] = (long) v << 20;
                    } else {
                        given[i] = v;
                    }
                }
                try {
                    m.invoke(x, given);
                } catch (java.lang.reflect.InvocationTargetException e) {
                    must(false, m.getName() + Arrays.toString(given) + " threw " + e.getCause());
                }
            }
        }
    }

    private static void dearCalls(FogKept x, int times) {
        for (int i = 0; i < times; i++) {
            sum += x.heading(i % 8, (i + 1) % 8) + x.begin(i % 8, (i + 1) % 8) + x.kind(i % 8) + x.hour(i % 8, (i + 1) % 8);
            sum += x.hope(i % 8, 60) + x.more(60) + x.best(30) + x.book(0, i % 8) + x.read(0, i % 8);
            sum += x.hours(60) + x.image() + x.undo() + x.feed(i, 4) + x.moor() + x.sheet(2, 16, 40) + x.status(-1);
            sum += x.walker(0, 0) + x.write(0, i % 40, i) + x.copy(0, 0, 0, 1, 39) + x.lays(0) + x.meet(0, 1);
        }
    }

    /** Rows are made in constructors: calls make none (some bytes are left for the measuring itself). */
    private static void room() {
        com.sun.management.ThreadMXBean threads = (com.sun.management.ThreadMXBean) ManagementFactory.getThreadMXBean();
        long own = Thread.currentThread().getId();
        FogKept x = crowded();
        dearCalls(x, 2);
        long before = threads.getThreadAllocatedBytes(own);
        dearCalls(x, 20);
        long made = threads.getThreadAllocatedBytes(own) - before;
        must(made < 20000, "calls made " + made + " bytes of objects");
    }

    public static void main(String[] args) throws Exception {
        face();
        text();
        oddCalls(0);
        oddCalls(1);
        room();
        System.out.println("language and room: " + wrong + " wrong");
        if (wrong != 0) {
            System.exit(1);
        }
    }
}
