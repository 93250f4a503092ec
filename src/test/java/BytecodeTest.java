import java.io.PrintWriter;
import java.io.StringWriter;
import java.util.ArrayList;
import java.util.List;
import java.util.Map;
import java.util.Optional;
import java.util.Set;
import java.util.TreeMap;
import java.util.TreeSet;
import java.util.regex.Matcher;
import java.util.regex.Pattern;
import java.util.spi.ToolProvider;

/** What of LANGUAGE.md shows in the compiled class: who calls whom, what is made where, what may throw. */
public final class BytecodeTest {
    private static final Bench BENCH = new Bench();
    private static final int DEEPEST = 8;
    private static final Set<String> LIBRARY = Set.of("java/lang/Object.<init>", "java/lang/String.length",
        "java/lang/String.charAt", "java/lang/Math.min", "java/lang/Math.max", "java/lang/Integer.bitCount",
        "java/lang/System.arraycopy", "java/util/NoSuchElementException.<init>");
    /** Each of these carries its depth as an argument and refuses what would go deeper. */
    private static final Set<String> RECURSIVE = Set.of("CobwebLibrary$Sentence.readCond", "CobwebLibrary$Sentence.readAll",
        "CobwebLibrary$Sentence.readOne", "CobwebLibrary$Foresight.keepsFrom", "CobwebLibrary$Foresight.countRowsFrom",
        "CobwebLibrary$Foresight.lawsFrom");
    private static final Pattern HEADER = Pattern.compile("^  (?:\\S.* )?([\\w$]+)\\([^)]*\\).*;$");
    private static final Pattern CALLED = Pattern.compile("// Method (?:([\\w/$]+)\\.)?\"?([\\w<>$]+)\"?:");
    private static final Pattern MADE = Pattern.compile("^ +\\d+: (new|newarray|anewarray|multianewarray) ");

    private final Map<String, Set<String>> calls = new TreeMap<>();

    public static void main(String[] args) {
        Optional<ToolProvider> javap = ToolProvider.findFirst("javap");
        if (javap.isEmpty()) {
            System.out.println("BytecodeTest: there is no javap here, nothing was looked at");
            return;
        }
        BytecodeTest test = new BytecodeTest();
        List<Class<?>> classes = new ArrayList<>(List.of(CobwebLibrary.class.getDeclaredClasses()));
        classes.add(CobwebLibrary.class);
        for (Class<?> c : classes) {
            test.read(c.getName(), listing(javap.get(), c.getName()));
        }
        BENCH.due("methods were read", test.calls.size() > 100, true);
        test.lookAtCalls();
        BENCH.finish("BytecodeTest");
    }

    private static String listing(ToolProvider javap, String name) {
        StringWriter out = new StringWriter();
        PrintWriter writer = new PrintWriter(out);
        javap.run(writer, writer, "-c", "-p", "-cp", System.getProperty("java.class.path"), name);
        writer.flush();
        return out.toString();
    }

    private void read(String owner, String listing) {
        String method = "";
        for (String line : listing.split("\n")) {
            Matcher header = HEADER.matcher(line);
            Matcher called = CALLED.matcher(line);
            if (header.matches()) {
                String name = header.group(1);
                method = owner + "." + (name.equals(owner) ? "<init>" : name);
                BENCH.part(method);
                BENCH.due("it has a name of its own", calls.put(method, new TreeSet<>()) == null, true);
            } else if (called.find() && calls.containsKey(method)) {
                String target = (called.group(1) == null ? owner : called.group(1)) + "." + called.group(2);
                calls.get(method).add(target);
            }
            lookAt(line, method);
        }
    }

    private static void lookAt(String line, String method) {
        boolean isThrowing = method.equals("CobwebLibrary.book") || method.equals("CobwebLibrary.quarrel");
        if (MADE.matcher(line).find()) {
            boolean isThrown = isThrowing && line.endsWith("// class java/util/NoSuchElementException");
            BENCH.due("rule 12, made outside a constructor: " + line, method.endsWith(".<init>") || isThrown, true);
        }
        if (line.contains(": athrow")) {
            BENCH.due("rule 6, a throw", isThrowing, true);
        }
        BENCH.due("rule 6, a catch: " + line, line.contains("Exception table"), false);
        BENCH.due("rules 2 and 10: " + line, line.contains("invokedynamic") || line.contains(": checkcast"), false);
    }

    private void lookAtCalls() {
        for (Map.Entry<String, Set<String>> method : calls.entrySet()) {
            BENCH.part(method.getKey());
            for (String target : method.getValue()) {
                if (target.startsWith("java/")) {
                    BENCH.due("rule 4, " + target, LIBRARY.contains(target), true);
                } else {
                    BENCH.due("it knows " + target, calls.containsKey(target), true);
                }
            }
            boolean comesBack = reachedFrom(method.getKey()).contains(method.getKey());
            BENCH.due("rule 8, it calls itself", comesBack, RECURSIVE.contains(method.getKey()));
            List<String> chain = deepest(method.getKey());
            BENCH.due("rule 11, eight deep at most: " + chain, chain.size() <= DEEPEST, true);
        }
    }

    private Set<String> reachedFrom(String method) {
        Set<String> reached = new TreeSet<>();
        List<String> open = new ArrayList<>(calls.getOrDefault(method, Set.of()));
        while (!open.isEmpty()) {
            String next = open.remove(open.size() - 1);
            if (reached.add(next)) {
                open.addAll(calls.getOrDefault(next, Set.of()));
            }
        }
        return reached;
    }

    /** The longest chain of open calls, in which methods that call one another back and forth count once. */
    private List<String> deepest(String method) {
        List<String> longest = List.of();
        Set<String> group = new TreeSet<>(Set.of(method));
        for (String other : reachedFrom(method)) {
            if (reachedFrom(other).contains(method)) {
                group.add(other);
            }
        }
        for (String member : group) {
            for (String target : calls.get(member)) {
                if (calls.containsKey(target) && !group.contains(target)) {
                    List<String> chain = deepest(target);
                    longest = chain.size() > longest.size() ? chain : longest;
                }
            }
        }
        List<String> all = new ArrayList<>(List.of(method));
        all.addAll(longest);
        return all;
    }
}
