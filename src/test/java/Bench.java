import java.nio.charset.StandardCharsets;

/** What the tests share: feeding texts and bytes, and counting answers that are not as due. */
final class Bench {
    private int checks = 0;
    private int wrong = 0;
    private String part = "";

    void part(String name) {
        part = name;
    }

    int checks() {
        return checks;
    }

    void due(String call, long got, long want) {
        checks++;
        if (got != want) {
            wrong++;
            System.out.println(part + ": " + call + " answered " + got + ", due is " + want);
        }
    }

    void due(String call, boolean got, boolean want) {
        due(call, got ? 1 : 0, want ? 1 : 0);
    }

    void finish(String name) {
        System.out.println(name + ": " + checks + " answers, " + wrong + " wrong");
        if (wrong != 0) {
            System.exit(1);
        }
    }

    static void feed(CobwebLibrary x, byte[] bytes) {
        int behind = x.count(7) + bytes.length;
        for (int from = 0; from < bytes.length; from += 20) {
            x.feed(number(bytes, from), number(bytes, from + 4), number(bytes, from + 8),
                number(bytes, from + 12), number(bytes, from + 16));
        }
        if (!x.end(behind)) {
            throw new IllegalStateException("the tape did not take " + bytes.length + " bytes");
        }
    }

    private static int number(byte[] bytes, int from) {
        int n = 0;
        for (int i = from; i < from + 4; i++) {
            n = n << 8 | (i < bytes.length ? bytes[i] & 255 : 0);
        }
        return n;
    }

    static void feed(CobwebLibrary x, String text) {
        feed(x, text.getBytes(StandardCharsets.ISO_8859_1));
    }

    static void feed(CobwebLibrary x, int... bytes) {
        byte[] all = new byte[bytes.length];
        for (int i = 0; i < bytes.length; i++) {
            all[i] = (byte) bytes[i];
        }
        feed(x, all);
    }

    static CobwebLibrary library(String text) {
        CobwebLibrary x = new CobwebLibrary();
        feed(x, text);
        if (x.library() < 0) {
            throw new IllegalStateException("a fault in " + text);
        }
        return x;
    }

    static String card(CobwebLibrary x, int b) {
        StringBuilder s = new StringBuilder();
        int size = x.catalogue(b);
        for (int i = 0; i < size; i++) {
            s.append((char) x.byteAt(i));
        }
        return s.toString();
    }

    static String padded(String text, int length) {
        StringBuilder s = new StringBuilder(text);
        while (s.length() < length) {
            s.append(' ');
        }
        return s.toString();
    }
}
