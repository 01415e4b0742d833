import java.io.IOException;
import java.lang.reflect.InvocationTargetException;
import java.lang.reflect.Method;
import java.nio.file.Files;
import java.nio.file.Path;
import java.util.ArrayList;
import java.util.List;
import java.util.Map;
import java.util.TreeMap;
import java.util.regex.Matcher;
import java.util.regex.Pattern;

/** README.md: its examples answer what stands beside them, and all calls are listed with what they throw. */
final class ReadmeTest {
    private static final Path README = Path.of("README.md");
    private static final Path CHECK = Path.of("src/test/java/Check.java");
    private static final Pattern CALL = Pattern.compile("days\\.(\\w+)\\((.*?)\\);(?: +// (.*))?");
    private static final Pattern PUT = Pattern.compile("put\\(days, \"(.*)\"\\);");
    private static final Pattern ROW = Pattern.compile("\\| `(\\w+)\\(.*?\\)` \\| .* \\| ?(.*)\\|");
    private static final Check check = new Check();
    private static MilkDays days;

    private static List<String> examples(String readme) {
        List<String> found = new ArrayList<>();
        Matcher m = Pattern.compile("(?s)```java\\n(.*?)```").matcher(readme);
        while (m.find()) found.add(m.group(1));
        return found;
    }

    private static Map<String, Method> face() {
        Map<String, Method> all = new TreeMap<>();
        for (Method m : MilkDays.class.getDeclaredMethods()) {
            if (java.lang.reflect.Modifier.isPublic(m.getModifiers())) all.put(m.getName(), m);
        }
        return all;
    }

    private static Object[] arguments(String text) {
        List<Object> all = new ArrayList<>();
        for (String one : text.split(", ")) {
            if (one.equals("true") || one.equals("false")) all.add(one.equals("true"));
            else if (!one.isEmpty()) all.add(Long.decode(one).intValue());
        }
        return all.toArray();
    }

    private static String answer(Method call, Object... arguments) throws ReflectiveOperationException {
        try {
            return String.valueOf(call.invoke(days, arguments));
        } catch (InvocationTargetException e) {
            return "throws " + e.getCause().getClass().getSimpleName();
        }
    }

    private static String spelled(Object... numbers) {
        StringBuilder b = new StringBuilder();
        for (Object number : numbers) {
            for (int shift = 24; shift >= 0; shift -= 8) b.append((char) ((Integer) number >>> shift & 255));
        }
        return b.toString().replace("\0", "");
    }

    private static void line(String text) throws ReflectiveOperationException {
        Matcher put = PUT.matcher(text);
        Matcher call = CALL.matcher(text);
        if (text.equals("MilkDays days = new MilkDays();")) {
            days = new MilkDays();
        } else if (put.matches()) {
            Check.put(days, put.group(1));
        } else if (call.matches()) {
            Object[] arguments = arguments(call.group(2));
            String remark = call.group(3) == null ? "null" : call.group(3);
            check.same(text, answer(face().get(call.group(1)), arguments), remark.replaceAll(":.*", ""));
            Matcher quote = Pattern.compile("\"(.*)\"").matcher(remark);
            if (quote.find()) check.same(text, spelled(arguments), quote.group(1));
        } else {
            check.same(text, "is not read", "a call with its answer");
        }
    }

    private static void calls(String readme) {
        Map<String, String> listed = new TreeMap<>();
        Map<String, String> due = new TreeMap<>();
        Matcher row = ROW.matcher(readme);
        while (row.find()) listed.put(row.group(1), row.group(2).replaceAll(" \\([^)]*\\)", "").trim());
        for (Method m : face().values()) {
            List<String> thrown = new ArrayList<>();
            for (Class<?> e : m.getExceptionTypes()) thrown.add(e.getSimpleName().replace("Exception", ""));
            due.put(m.getName(), String.join(", ", thrown));
        }
        check.same("the calls listed", listed, due);
    }

    public static void main(String[] args) throws IOException, ReflectiveOperationException {
        String readme = Files.readString(README);
        List<String> examples = examples(readme);
        check.same("examples", examples.size(), 3);
        String helper = ("\n" + examples.get(0)).replaceAll("\n(?=.)", "\n    ");
        check.same("the helper is that of the tests", Files.readString(CHECK).contains(helper), true);
        for (String example : examples.subList(1, examples.size())) {
            for (String text : example.split("\n")) line(text);
        }
        calls(readme);
        check.end("ReadmeTest");
    }
}
