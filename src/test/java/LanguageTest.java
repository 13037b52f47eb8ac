import java.lang.reflect.Constructor;
import java.lang.reflect.Field;
import java.lang.reflect.Method;
import java.lang.reflect.Modifier;
import java.nio.file.Files;
import java.nio.file.Path;
import java.util.List;
import java.util.Set;
import java.util.TreeSet;
import java.util.regex.Matcher;
import java.util.regex.Pattern;

/** The face of the document, and those rules of LANGUAGE.md that can be seen from outside. */
public final class LanguageTest {
    private static final Path SOURCE = Path.of("src/main/java/EightOars.java");
    private static final Path DOCUMENT = Path.of("../shared/DOC.md");

    public static void main(String[] args) throws Exception {
        face();
        names();
        sizes();
        words();
        lengths();
        Due.end();
    }

    private static void face() throws Exception {
        Set<String> due = new TreeSet<>();
        Matcher m = Pattern.compile("public (int|long) (\\w+)\\(([^)]*)\\);").matcher(Files.readString(DOCUMENT));
        while (m.find()) {
            String types = m.group(3).replaceAll(" \\w+(,|$)", "$1");
            due.add(m.group(1) + " " + m.group(2) + "(" + types + ")");
        }
        Set<String> there = new TreeSet<>();
        for (Method method : EightOars.class.getDeclaredMethods()) {
            if (Modifier.isPrivate(method.getModifiers())) {
                continue;
            }
            Due.holds(method.getName() + " is public", Modifier.isPublic(method.getModifiers()));
            StringBuilder types = new StringBuilder();
            for (Class<?> type : method.getParameterTypes()) {
                types.append(types.length() == 0 ? "" : ", ").append(type.getName());
            }
            there.add(method.getReturnType().getName() + " " + method.getName() + "(" + types + ")");
        }
        Due.is("methods in the document", due.size(), 32);
        Due.holds("the methods are the document's: " + there, there.equals(due));
        Constructor<?>[] made = EightOars.class.getDeclaredConstructors();
        Due.holds("one public constructor of nothing", made.length == 1
                && Modifier.isPublic(made[0].getModifiers()) && made[0].getParameterCount() == 0);
        Due.holds("the class is final", Modifier.isFinal(EightOars.class.getModifiers()));
        Set<String> constants = new TreeSet<>();
        for (Field field : EightOars.class.getDeclaredFields()) {
            if (!Modifier.isPrivate(field.getModifiers())) {
                constants.add(field.getName());
                int is = field.getModifiers();
                Due.holds(field.getName() + " is a constant",
                        Modifier.isPublic(is) && Modifier.isStatic(is) && Modifier.isFinal(is));
                Due.holds(field.getName() + " is of its type",
                        field.getType() == (field.getName().equals("NO") ? long.class : int.class));
            }
        }
        Due.holds("the constants", constants.equals(Set.of("NONE", "BAD", "STATE", "FULL", "NO")));
    }

    private static void names() {
        Set<String> open = new TreeSet<>();
        for (Method method : EightOars.class.getDeclaredMethods()) {
            if (Modifier.isPublic(method.getModifiers())) {
                open.add(method.getName());
            }
        }
        for (Method method : EightOars.class.getDeclaredMethods()) {
            Due.holds(method.getName() + " bears no public name",
                    Modifier.isPublic(method.getModifiers()) || !open.contains(method.getName()));
        }
        for (Class<?> inside : EightOars.class.getDeclaredClasses()) {
            Due.holds(inside + " is static", Modifier.isStatic(inside.getModifiers()));
            Due.holds(inside + " is not public", !Modifier.isPublic(inside.getModifiers()));
            for (Method method : inside.getDeclaredMethods()) {
                Due.holds(inside + "." + method.getName(), !open.contains(method.getName()));
            }
        }
    }

    private static void sizes() {
        Class<?>[] inside = EightOars.class.getDeclaredClasses();
        Due.holds("twelve classes at most", inside.length + 1 <= 12);
        for (Class<?> one : inside) {
            sizesOf(one);
        }
        sizesOf(EightOars.class);
    }

    private static void sizesOf(Class<?> one) {
        int fields = 0;
        for (Field field : one.getDeclaredFields()) {
            boolean fixed = Modifier.isStatic(field.getModifiers());
            Due.holds(field + " is final", !fixed || Modifier.isFinal(field.getModifiers()));
            fields += fixed ? 0 : 1;
        }
        Due.holds(one + " has twenty fields at most", fields <= 20);
        for (Method method : one.getDeclaredMethods()) {
            Due.holds(method + " takes seven at most", method.getParameterCount() <= 7);
            Due.holds(method + " is no lambda", !method.isSynthetic());
        }
    }

    private static void words() throws Exception {
        String code = Files.readString(SOURCE);
        Due.holds("signs of one byte", code.chars().allMatch(c -> c == '\n' || c >= 32 && c < 127));
        String bare = code.replaceAll("(?s)/\\*.*?\\*/", " ").replaceAll("//[^\n]*", " ")
                .replaceAll("\"[^\"\n]*\"", "\"\"");
        for (String word : List.of("throw", "throws", "try", "catch", "synchronized", "assert", "package",
                "protected", "Object", "Exact", "hashCode", "System.out")) {
            Due.holds("no " + word, !Pattern.compile("\\b" + Pattern.quote(word) + "\\b").matcher(bare).find());
        }
        Due.holds("no arrow", !bare.contains("->") && !bare.contains("::"));
        Due.holds("no texts joined by +", !bare.contains("\"\" +") && !bare.contains("+ \"\""));
        Matcher m = Pattern.compile("import ([^;]+);").matcher(bare);
        while (m.find()) {
            Due.holds("import " + m.group(1), List.of("java.util.Arrays", "java.util.ArrayList",
                    "java.util.List", "java.util.Iterator").contains(m.group(1)));
        }
    }

    /** A method's lines: from one that opens at its depth to the next that closes there. */
    private static void lengths() throws Exception {
        for (String depth : List.of("    ", "        ")) {
            int from = -1;
            int line = 0;
            for (String text : Files.readAllLines(SOURCE)) {
                line++;
                if (text.matches(depth + "\\w.*\\) \\{")) {
                    from = line;
                } else if (text.equals(depth + "}") && from >= 0) {
                    Due.holds("the method at line " + from + " is short", line - from < 60);
                    from = -1;
                }
            }
        }
    }
}
