import java.io.PrintWriter;
import java.io.StringWriter;
import java.net.URISyntaxException;
import java.nio.file.Path;
import java.util.ArrayDeque;
import java.util.ArrayList;
import java.util.Deque;
import java.util.HashMap;
import java.util.HashSet;
import java.util.List;
import java.util.Map;
import java.util.Set;
import java.util.TreeMap;
import java.util.TreeSet;
import java.util.regex.Matcher;
import java.util.regex.Pattern;
import java.util.spi.ToolProvider;

/** The rules of LANGUAGE.md that can be seen in the compiled class: what it calls, what it makes, how deep calls go. */
final class BytecodeTest {
    private static final Set<String> LIBRARY = Set.of("java/lang/Object.<init>", "java/lang/System.arraycopy",
        "java/util/Arrays.fill", "java/lang/Integer.bitCount", "java/lang/Math.min", "java/lang/Math.max",
        "java/lang/String.length", "java/lang/String.charAt");
    private static final Set<String> EXCEPTIONS = Set.of("java/lang/IllegalArgumentException",
        "java/lang/IllegalStateException", "java/lang/IndexOutOfBoundsException",
        "java/lang/UnsupportedOperationException", "java/util/NoSuchElementException");
    private static final Pattern METHOD = Pattern.compile("  (?! )(?:.* )?([\\w$]+)\\(.*\\).*;");
    private static final Pattern CALLED = Pattern.compile("// (?:Interface)?Method (?:([\\w$/]+)\\.)?\"?([\\w<>]+)\"?:");
    private static final Check check = new Check();
    private static final Map<String, Set<String>> calls = new TreeMap<>();

    private static String listing(Class<?> type) throws URISyntaxException {
        Path root = Path.of(MilkDays.class.getProtectionDomain().getCodeSource().getLocation().toURI());
        StringWriter out = new StringWriter();
        PrintWriter writer = new PrintWriter(out);
        ToolProvider javap = ToolProvider.findFirst("javap").orElseThrow();
        int code = javap.run(writer, writer, "-c", "-p", root.resolve(type.getName() + ".class").toString());
        check.same("javap of " + type, code, 0);
        return out.toString();
    }

    private static void read(Class<?> type) throws URISyntaxException {
        String own = type.getName();
        String method = "";
        for (String line : listing(type).split("\\R")) {
            Matcher begin = METHOD.matcher(line);
            Matcher called = CALLED.matcher(line);
            if (begin.matches()) {
                String name = begin.group(1).equals(own) ? "<init>" : begin.group(1);
                method = own + "." + name;
                calls.putIfAbsent(method, new TreeSet<>());
            } else if (called.find()) {
                String owner = called.group(1) == null ? own : called.group(1);
                calls.get(method).add(owner + "." + called.group(2));
            }
            boolean makes = line.matches(".*: (new|anewarray|newarray|multianewarray) .*");
            boolean exception = EXCEPTIONS.stream().anyMatch(line::endsWith);
            check.same(method + " makes nothing but exceptions: " + line.trim(),
                makes && !exception && !method.endsWith("<init>"), false);
            check.same(method + ": " + line.trim(), line.matches(".*: (invokedynamic|checkcast|instanceof) .*"), false);
        }
    }

    private static void library() {
        for (Map.Entry<String, Set<String>> entry : calls.entrySet()) {
            for (String called : entry.getValue()) {
                String owner = called.substring(0, called.lastIndexOf('.'));
                boolean own = owner.startsWith("MilkDays");
                check.same(entry.getKey() + " calls " + called,
                    own || LIBRARY.contains(called) || EXCEPTIONS.contains(owner), true);
                check.same(called + " is known", !own || calls.containsKey(called), true);
            }
        }
    }

    private static Set<String> reachable(String from) {
        Set<String> seen = new HashSet<>();
        Deque<String> left = new ArrayDeque<>(List.of(from));
        while (!left.isEmpty()) {
            for (String next : calls.getOrDefault(left.pop(), Set.of())) {
                if (calls.containsKey(next) && seen.add(next)) left.push(next);
            }
        }
        return seen;
    }

    /** Methods that call one another count as one. */
    private static int depth(String method, Map<String, Set<String>> reach, Map<String, Integer> known) {
        if (known.containsKey(method)) return known.get(method);
        List<String> together = new ArrayList<>(List.of(method));
        for (String other : reach.get(method)) {
            if (!other.equals(method) && reach.get(other).contains(method)) together.add(other);
        }
        int below = 0;
        for (String one : together) {
            for (String next : calls.get(one)) {
                if (calls.containsKey(next) && !together.contains(next)) below = Math.max(below, depth(next, reach, known));
            }
        }
        for (String one : together) known.put(one, below + 1);
        return below + 1;
    }

    private static void depths() {
        Map<String, Set<String>> reach = new HashMap<>();
        for (String method : calls.keySet()) reach.put(method, reachable(method));
        Set<String> circles = new TreeSet<>();
        Map<String, Integer> known = new HashMap<>();
        for (String method : calls.keySet()) {
            check.same(method + " goes at most eight deep", depth(method, reach, known) <= 8, true);
            if (reach.get(method).contains(method)) circles.add(method);
        }
        check.same("recursion is in the reading of a law alone", circles,
            Set.of("MilkDays$Texts.readAny", "MilkDays$Texts.readAll", "MilkDays$Texts.readAtom"));
    }

    public static void main(String[] args) throws URISyntaxException {
        read(MilkDays.class);
        for (Class<?> inside : MilkDays.class.getDeclaredClasses()) read(inside);
        check.same("methods are found", calls.size() > 150, true);
        library();
        depths();
        check.end("BytecodeTest");
    }
}
