import java.io.File;
import java.io.PrintWriter;
import java.io.StringWriter;
import java.util.ArrayList;
import java.util.List;
import java.util.Map;
import java.util.Set;
import java.util.TreeMap;
import java.util.TreeSet;
import java.util.regex.Matcher;
import java.util.regex.Pattern;
import java.util.spi.ToolProvider;

/** Those rules of LANGUAGE.md that can be seen in what javac makes of the class: 2, 4 to 6, 8, 11. */
public final class BytecodeTest {
    /** Rule 4. */
    private static final List<Pattern> LIBRARY = List.of(
            Pattern.compile("java/lang/(Object|StringBuilder)\\.\"<init>\""),
            Pattern.compile("java/util/ArrayList\\.\"<init>\""),
            Pattern.compile("java/lang/String\\.(\"<init>\"|length|charAt|isEmpty|equals|indexOf|substring|toCharArray)"),
            Pattern.compile("java/lang/StringBuilder\\.(append|charAt|setCharAt|setLength|deleteCharAt|reverse|length|toString)"),
            Pattern.compile("java/util/(Array)?List\\.(add|get|set|remove|size|isEmpty|clear|iterator|of)"),
            Pattern.compile("java/util/Iterator\\.(hasNext|next)"),
            Pattern.compile("java/lang/(Integer|Long|Math)\\.(?!.*Exact$)[a-zA-Z]+"),
            Pattern.compile("java/lang/System\\.arraycopy"),
            Pattern.compile("java/util/Arrays\\.(copyOf|copyOfRange|fill)"),
            Pattern.compile("java/lang/Enum\\.(\"<init>\"|ordinal)"),
            Pattern.compile("\"\\[.*\"\\.clone"));
    private static final Pattern CALL = Pattern.compile("invoke\\w+ +#.*// (?:Interface)?Method ([^:]+):");
    private static final int MOST_OPEN = 8, FACE = 33;

    /** The lines of each method, by class and name; methods of one name in a class are taken as one. */
    private static final Map<String, List<String>> BODIES = new TreeMap<>();
    private static final Map<String, Set<String>> CALLS = new TreeMap<>();
    private static final Set<String> OPEN_TO_OTHERS = new TreeSet<>();

    public static void main(String[] args) throws Exception {
        if (ToolProvider.findFirst("javap").isEmpty()) {
            // .ci/run promises to need javac and java alone
            System.out.println("no javap here: the bytecode was not looked at");
            return;
        }
        read();
        library();
        noThrowing();
        noHiddenClasses();
        noWorkAhead();
        openCalls();
        Due.end();
    }

    private static String disassembled() throws Exception {
        File out = new File(EightOars.class.getProtectionDomain().getCodeSource().getLocation().toURI());
        List<String> told = new ArrayList<>(List.of("-c", "-p", "-cp", out.getPath(), "EightOars"));
        for (Class<?> inside : EightOars.class.getDeclaredClasses()) {
            told.add(inside.getName());
        }
        StringWriter lines = new StringWriter();
        PrintWriter to = new PrintWriter(lines);
        ToolProvider javap = ToolProvider.findFirst("javap").orElseThrow();
        Due.is("javap", javap.run(to, to, told.toArray(new String[0])), 0);
        return lines.toString();
    }

    private static void read() throws Exception {
        Pattern header = Pattern.compile("  (?:[^ ].* )?([\\w$]+)\\(.*\\);|  static \\{\\};");
        Pattern opens = Pattern.compile("[^ ].*?(?:class|interface) ([\\w$]+).*\\{|(?:class|interface) ([\\w$]+).*\\{");
        String owner = "";
        String name = "";
        for (String line : disassembled().split("\n")) {
            Matcher type = opens.matcher(line);
            Matcher method = header.matcher(line);
            if (type.matches()) {
                owner = type.group(1) == null ? type.group(2) : type.group(1);
            } else if (method.matches()) {
                String plain = method.group(1);
                name = owner + "." + (plain == null ? "static" : plain.equals(owner) ? "\"<init>\"" : plain);
                BODIES.computeIfAbsent(name, n -> new ArrayList<>());
                CALLS.computeIfAbsent(name, n -> new TreeSet<>());
                if (!line.startsWith("  private ")) {
                    OPEN_TO_OTHERS.add(name);
                }
            } else if (!name.isEmpty() && line.startsWith("   ")) {
                BODIES.get(name).add(line);
                Matcher call = CALL.matcher(line);
                if (call.find()) {
                    // javap leaves the class out where it is the method's own
                    String to = call.group(1);
                    CALLS.get(name).add(to.contains(".") ? to : owner + "." + to);
                }
            }
        }
        Due.holds("methods were read: " + BODIES.size(), BODIES.size() >= FACE);
    }

    /** Rules 4 and 13. */
    private static void library() {
        for (Map.Entry<String, Set<String>> calls : CALLS.entrySet()) {
            for (String to : calls.getValue()) {
                boolean fits = CALLS.containsKey(to);
                for (Pattern listed : LIBRARY) {
                    fits |= listed.matcher(to).matches();
                }
                Due.holds(calls.getKey() + " calls " + to, fits);
            }
        }
    }

    private static void without(String name, String... codes) {
        for (Map.Entry<String, List<String>> body : BODIES.entrySet()) {
            for (String line : body.getValue()) {
                for (String code : codes) {
                    Due.holds(body.getKey() + ", " + name + ": " + line.trim(), !line.contains(code));
                }
            }
        }
    }

    /** Rule 6. */
    private static void noThrowing() {
        without("no throw, try, synchronized", "athrow", "Exception table", "monitorenter");
    }

    /** Rules 2 and 10: no lambdas, no texts joined by +. */
    private static void noHiddenClasses() {
        without("no lambda", "invokedynamic");
        for (Class<?> inside : EightOars.class.getDeclaredClasses()) {
            Due.holds(inside + " is no local one", !inside.isLocalClass() && !inside.isAnonymousClass());
        }
    }

    /** Rule 5: what is static is never put to another value. */
    private static void noWorkAhead() {
        for (Map.Entry<String, List<String>> body : BODIES.entrySet()) {
            if (body.getKey().endsWith(".static")) {
                continue;
            }
            for (String line : body.getValue()) {
                Due.holds(body.getKey() + " leaves what is static: " + line.trim(), !line.contains("putstatic"));
            }
        }
    }

    /** Rules 8 and 11: what calls itself is private; calls that are no recursion go eight deep. */
    private static void openCalls() {
        Set<String> again = new TreeSet<>();
        for (String name : CALLS.keySet()) {
            if (reaches(name, name, new TreeSet<>())) {
                again.add(name);
                Due.holds(name + " calls itself and is private", !OPEN_TO_OTHERS.contains(name));
            }
        }
        for (String name : CALLS.keySet()) {
            int deep = deepFrom(name, again, new TreeSet<>());
            Due.holds(name + " goes " + deep + " deep", deep <= MOST_OPEN);
        }
    }

    private static boolean reaches(String from, String to, Set<String> seen) {
        for (String next : CALLS.getOrDefault(from, Set.of())) {
            if (next.equals(to) || seen.add(next) && reaches(next, to, seen)) {
                return true;
            }
        }
        return false;
    }

    /** Calls that are open at once, the first with them; those of a recursion count for nothing. */
    private static int deepFrom(String name, Set<String> again, Set<String> open) {
        if (!open.add(name)) {
            return 0;
        }
        int deep = 0;
        for (String next : CALLS.getOrDefault(name, Set.of())) {
            deep = Math.max(deep, deepFrom(next, again, open));
        }
        open.remove(name);
        return deep + (again.contains(name) ? 0 : 1);
    }
}
