import java.io.IOException;
import java.lang.reflect.InvocationTargetException;
import java.lang.reflect.Method;
import java.nio.charset.StandardCharsets;
import java.nio.file.Files;
import java.nio.file.Path;
import java.util.ArrayList;
import java.util.List;
import java.util.regex.Matcher;
import java.util.regex.Pattern;

/** Runs the calls that README.md shows, line by line, and looks whether they answer what it says. */
public final class ReadmeTest {
    private static final Bench BENCH = new Bench();
    private static final Pattern MADE = Pattern.compile("CobwebLibrary x = new CobwebLibrary\\(\\);");
    private static final Pattern TOLD = Pattern.compile("tell\\(x, \"(.*)\"\\);");
    private static final Pattern CALL = Pattern.compile("x\\.(\\w+)\\((.*)\\); *// (-?\\w+).*");

    private CobwebLibrary x = null;

    public static void main(String[] args) throws IOException {
        String own = plain(Files.readString(Path.of("src/test/java/ReadmeTest.java"), StandardCharsets.UTF_8));
        ReadmeTest test = new ReadmeTest();
        int blocks = 0;
        for (List<String> block : blocks(Files.readAllLines(Path.of("README.md"), StandardCharsets.UTF_8))) {
            blocks++;
            BENCH.part("README.md, block " + blocks);
            if (block.get(0).startsWith("static ")) {
                BENCH.due("the helper is the one used here", own.contains(plain(String.join("\n", block))), true);
            } else {
                block.forEach(test::run);
            }
        }
        BENCH.part("README.md");
        BENCH.due("it shows calls", blocks > 1 && BENCH.checks() > 40, true);
        BENCH.finish("ReadmeTest");
    }

    private static String plain(String source) {
        return source.replaceAll("\\s+", " ");
    }

    private static List<List<String>> blocks(List<String> lines) {
        List<List<String>> all = new ArrayList<>();
        List<String> block = null;
        for (String line : lines) {
            if (line.equals("```java")) {
                block = new ArrayList<>();
            } else if (line.equals("```") && block != null) {
                all.add(block);
                block = null;
            } else if (block != null) {
                block.add(line);
            }
        }
        return all;
    }

    private void run(String line) {
        Matcher told = TOLD.matcher(line);
        Matcher call = CALL.matcher(line);
        if (MADE.matcher(line).matches()) {
            x = new CobwebLibrary();
        } else if (told.matches()) {
            tell(x, told.group(1));
        } else if (call.matches()) {
            String got = answer(call.group(1), call.group(2));
            BENCH.due(line + " (" + got + ")", got.equals(call.group(3)), true);
        } else {
            BENCH.due("can't be run: " + line, 1, 0);
        }
    }

    private String answer(String name, String arguments) {
        String[] texts = arguments.isEmpty() ? new String[0] : arguments.split(", ");
        Object[] numbers = new Object[texts.length];
        for (int k = 0; k < texts.length; k++) {
            numbers[k] = Long.decode(texts[k]).intValue();
        }
        for (Method m : CobwebLibrary.class.getMethods()) {
            if (m.getName().equals(name)) {
                try {
                    return m.invoke(x, numbers).toString();
                } catch (InvocationTargetException e) {
                    return e.getCause().getClass().getSimpleName();
                } catch (IllegalAccessException e) {
                    return "no access";
                }
            }
        }
        return "no such call";
    }

    static void tell(CobwebLibrary x, String text) {
        int length = x.count(7) + text.length();
        int[] numbers = new int[5 * (text.length() / 20 + 1)];
        for (int i = 0; i < text.length(); i++) {
            numbers[i / 4] |= text.charAt(i) << (24 - 8 * (i % 4));
        }
        for (int k = 0; k < numbers.length; k += 5) {
            x.feed(numbers[k], numbers[k + 1], numbers[k + 2], numbers[k + 3], numbers[k + 4]);
        }
        x.end(length);
    }
}
