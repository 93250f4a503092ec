import java.io.IOException;
import java.lang.reflect.Executable;
import java.lang.reflect.Field;
import java.lang.reflect.Method;
import java.lang.reflect.Modifier;
import java.nio.charset.StandardCharsets;
import java.nio.file.Files;
import java.nio.file.Path;
import java.util.Arrays;
import java.util.List;
import java.util.Set;
import java.util.TreeSet;
import java.util.regex.Matcher;
import java.util.regex.Pattern;

/** What of LANGUAGE.md can be seen by reflection and in the file's lines. */
public final class RulesTest {
    private static final Bench BENCH = new Bench();
    private static final String FACE = "feed(int,int,int,int,int):int end(int):boolean library():int fault():int "
        + "book(int,int):int thread(int,int):int sight(int):int at(int,int):int now(int):int ask(int):int broom(int):int "
        + "move(int,int,int):int days(int,int):int undo():int when(int):int follow(int):int way(int,int):int wayAt(int):int "
        + "quarrels():int quarrel(int):int keep(int):int keepAt(int):int asked(int):int askedAt(int):int spun():int "
        + "torn(int):int steps():int turns(int):int turn():int catalogue(int):int byteAt(int):int odds(int,int,int):int "
        + "life(int):int told(int):int sentence():int said(int):int image(int):boolean restore(int):boolean count(int):int";
    private static final String[] RULED_OUT = {"->", "::", "finally", "synchronized", "assert ", "catch", "try ", "Exact(",
        "String.", "hashCode", "toString", "equals(", "lambda", "Object", "List", "protected", "static {", "double", "float",
        "Random", "Thread.", "\" +", "+ \""};

    public static void main(String[] args) throws IOException {
        face();
        classes();
        lines(Files.readAllLines(Path.of("src/main/java/CobwebLibrary.java"), StandardCharsets.ISO_8859_1));
        BENCH.finish("RulesTest");
    }

    private static String signature(Method m) {
        StringBuilder s = new StringBuilder(m.getName()).append('(');
        for (Class<?> p : m.getParameterTypes()) {
            s.append(s.charAt(s.length() - 1) == '(' ? "" : ",").append(p.getSimpleName());
        }
        return s.append("):").append(m.getReturnType().getSimpleName()).toString();
    }

    private static void face() {
        BENCH.part("rule 1");
        Set<String> open = new TreeSet<>();
        for (Method m : CobwebLibrary.class.getDeclaredMethods()) {
            if (Modifier.isPublic(m.getModifiers())) {
                open.add(signature(m));
            }
            BENCH.due(m.getName() + " is public or private", isFace(m.getModifiers()), true);
        }
        BENCH.due("the methods of the face", open.equals(new TreeSet<>(Arrays.asList(FACE.split(" ")))), true);
        for (Field f : CobwebLibrary.class.getDeclaredFields()) {
            boolean isNone = f.getName().equals("NONE");
            BENCH.due(f.getName() + " is private", Modifier.isPrivate(f.getModifiers()), !isNone);
        }
        BENCH.due("constructors", CobwebLibrary.class.getDeclaredConstructors().length, 1);
        int modifiers = CobwebLibrary.class.getModifiers();
        BENCH.due("public and final", Modifier.isPublic(modifiers) && Modifier.isFinal(modifiers), true);
    }

    private static boolean isFace(int modifiers) {
        return Modifier.isPublic(modifiers) || Modifier.isPrivate(modifiers);
    }

    private static void classes() {
        BENCH.part("rules 1, 2, 5, 11");
        Class<?>[] inside = CobwebLibrary.class.getDeclaredClasses();
        BENCH.due("at most twelve classes", inside.length < 12, true);
        sizes(CobwebLibrary.class);
        Set<String> names = new TreeSet<>();
        for (String method : FACE.split(" ")) {
            names.add(method.substring(0, method.indexOf('(')));
        }
        for (Class<?> c : inside) {
            BENCH.due(c.getName() + " is static", Modifier.isStatic(c.getModifiers()), true);
            sizes(c);
            for (Method m : c.getDeclaredMethods()) {
                BENCH.due(c.getName() + "." + m.getName() + " has a name of the face", names.contains(m.getName()), false);
            }
        }
    }

    private static void sizes(Class<?> c) {
        int fields = 0;
        for (Field f : c.getDeclaredFields()) {
            boolean isStatic = Modifier.isStatic(f.getModifiers());
            fields += isStatic ? 0 : 1;
            BENCH.due(c.getName() + "." + f.getName() + " is no static state",
                !isStatic || Modifier.isFinal(f.getModifiers()), true);
        }
        BENCH.due(c.getName() + " has at most twenty fields", fields <= 20, true);
        for (Executable m : c.getDeclaredMethods()) {
            BENCH.due(m.getName() + " takes at most seven", m.getParameterCount() <= 7, true);
        }
    }

    private static void lines(List<String> lines) {
        BENCH.part("rules 4, 6, 10, 11");
        Pattern header = Pattern.compile("^( {4}| {8})[a-z].*\\) (throws \\w+ )?\\{$");
        int from = -1;
        String indent = "";
        for (int i = 0; i < lines.size(); i++) {
            String line = lines.get(i);
            Matcher m = header.matcher(line);
            if (from < 0 && m.matches()) {
                from = i;
                indent = m.group(1);
            } else if (from >= 0 && line.equals(indent + "}")) {
                BENCH.due("lines of the method at " + (from + 1) + " are at most 60", i - from < 60, true);
                from = -1;
            }
            look(line, i + 1);
        }
    }

    private static void look(String line, int number) {
        boolean isNote = line.trim().startsWith("//") || line.trim().startsWith("/**");
        for (String word : RULED_OUT) {
            BENCH.due("'" + word + "' in line " + number, !isNote && line.contains(word), false);
        }
        boolean isPlain = line.chars().allMatch(c -> c >= 32 && c < 127);
        BENCH.due("plain signs in line " + number, isPlain, true);
        if (line.startsWith("import")) {
            BENCH.due("the import of line " + number, line.equals("import java.util.NoSuchElementException;"), true);
        }
        if (line.contains("System.")) {
            BENCH.due("System in line " + number, line.contains("System.arraycopy("), true);
        }
        if (line.contains("Math.")) {
            BENCH.due("Math in line " + number, line.contains("Math.min(") || line.contains("Math.max("), true);
        }
    }
}
