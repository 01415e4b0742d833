import java.io.IOException;
import java.lang.reflect.Field;
import java.lang.reflect.Method;
import java.lang.reflect.Modifier;
import java.nio.file.Files;
import java.nio.file.Path;
import java.util.ArrayList;
import java.util.Arrays;
import java.util.List;
import java.util.TreeSet;
import java.util.regex.Matcher;
import java.util.regex.Pattern;

/** The face is the document's and no more; and the rules of LANGUAGE.md that can be seen in the text alone. */
final class FaceTest {
    private static final Path SOURCE = Path.of("src/main/java/MilkDays.java");
    private static final Path DOCUMENT = Path.of("../shared/DOC.md");
    private static final Check check = new Check();

    private static String plain(Class<?>[] types) {
        List<String> names = new ArrayList<>();
        for (Class<?> type : types) names.add(type.getSimpleName());
        return String.join(",", names);
    }

    private static TreeSet<String> documentFace() throws IOException {
        String text = Files.readString(DOCUMENT);
        String face = text.substring(text.indexOf("```java"), text.indexOf("## Terms"));
        Matcher m = Pattern.compile("public (\\w+) (\\w+)\\(([^)]*)\\)( throws ([^;]+))?;").matcher(face);
        TreeSet<String> all = new TreeSet<>();
        while (m.find()) {
            String types = m.group(3).replaceAll("(\\w+) \\w+", "$1").replace(" ", "");
            String thrown = m.group(5) == null ? "" : m.group(5).replace(" ", "");
            all.add(m.group(1) + " " + m.group(2) + "(" + types + ") " + thrown);
        }
        return all;
    }

    private static TreeSet<String> ownFace() {
        TreeSet<String> all = new TreeSet<>();
        for (Method m : MilkDays.class.getDeclaredMethods()) {
            if (Modifier.isPrivate(m.getModifiers())) continue;
            check.same(m + " is public and not static", m.getModifiers(), Modifier.PUBLIC);
            all.add(m.getReturnType().getSimpleName() + " " + m.getName() + "(" + plain(m.getParameterTypes()) + ") "
                + plain(m.getExceptionTypes()));
        }
        return all;
    }

    private static void face() throws IOException {
        check.same("the face has all methods", documentFace().size(), 56);
        check.same("the face", ownFace(), documentFace());
        check.same("constructors", MilkDays.class.getDeclaredConstructors().length, 1);
        check.same("the class", MilkDays.class.getModifiers(), Modifier.PUBLIC | Modifier.FINAL);
        for (Field f : MilkDays.class.getDeclaredFields()) {
            boolean none = f.getName().equals("NONE");
            check.same(f + " is private", Modifier.isPrivate(f.getModifiers()), !none);
            if (Modifier.isStatic(f.getModifiers())) check.same(f + " is final", Modifier.isFinal(f.getModifiers()), true);
        }
        TreeSet<String> names = new TreeSet<>();
        for (Method m : MilkDays.class.getMethods()) names.add(m.getName());
        for (Method m : MilkDays.class.getDeclaredMethods()) {
            boolean hidden = Modifier.isPrivate(m.getModifiers());
            if (hidden) check.same(m + " bears a name of its own", names.contains(m.getName()), false);
            check.same(m + " has few parameters", m.getParameterCount() <= 7, true);
        }
    }

    private static void insides() {
        Class<?>[] inside = MilkDays.class.getDeclaredClasses();
        check.same("some twelve classes", inside.length <= 12, true);
        for (Class<?> c : inside) {
            check.same(c + " is static", Modifier.isStatic(c.getModifiers()), true);
            check.same(c + " is not public", Modifier.isPublic(c.getModifiers()), false);
            long fields = Arrays.stream(c.getDeclaredFields()).filter(f -> !Modifier.isStatic(f.getModifiers())).count();
            check.same(c + " has some twenty fields", fields <= 20, true);
        }
    }

    private static void text() throws IOException {
        String source = Files.readString(SOURCE);
        String code = source.replaceAll("(?s)/\\*.*?\\*/", "").replaceAll("//[^\n]*", "").replaceAll("\"[^\"\n]*\"", "\"\"");
        String[] never = {"->", "::", "\\bcatch\\b", "\\btry\\b", "\\bfinally\\b", "\\bassert\\b", "\\bsynchronized\\b",
            "static \\{", "Exact\\b", "\\bpackage\\b", "\\blambda\\b", "\\bSystem\\.(?!arraycopy)", "\\bList\\b", "\\+ \"", "\" \\+"};
        for (String word : never) check.same("without " + word, Pattern.compile(word).matcher(code).find(), false);
        Matcher imports = Pattern.compile("import ([\\w.]+);").matcher(code);
        while (imports.find()) {
            check.same(imports.group(1), List.of("java.util.Arrays", "java.util.NoSuchElementException").contains(imports.group(1)), true);
        }
        check.same("signs 1 to 127", source.chars().allMatch(c -> c > 0 && c < 128), true);
        shortMethods(source);
    }

    private static void shortMethods(String source) {
        int from = 0;
        String[] lines = source.split("\n");
        for (int i = 0; i < lines.length; i++) {
            if (lines[i].matches("(    |        )[\\w\\[\\]].*\\{") || lines[i].matches("    public .*|            throws .*\\{")) from = i;
            if (lines[i].matches("(    |        )\\}") && !lines[from].contains(" class ")) {
                check.same("the method at line " + (from + 1) + " is short", i - from <= 60, true);
            }
        }
    }

    public static void main(String[] args) throws IOException {
        face();
        insides();
        text();
        check.end("FaceTest");
    }
}
