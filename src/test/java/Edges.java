import java.lang.reflect.InvocationTargetException;
import java.lang.reflect.Method;
import java.util.ArrayList;
import java.util.Comparator;
import java.util.List;
import java.util.NoSuchElementException;

/** What the tests of boundary cases share; each of them is a method that is named by its promise's number. */
final class Edges {
    static final int NONE = CobwebLibrary.NONE;
    static final int THROWN = -1000000;
    static final int[] FAR = {Integer.MIN_VALUE, Integer.MIN_VALUE + 1, -1000, Integer.MAX_VALUE - 1, Integer.MAX_VALUE};
    static final Bench BENCH = new Bench();

    private Edges() {
    }

    /** Runs every method of the class that is named by a promise: their names. */
    static List<String> runAll(Class<?> tests) {
        List<Method> methods = new ArrayList<>();
        for (Method m : tests.getDeclaredMethods()) {
            if (m.getName().startsWith("promise")) {
                methods.add(m);
            }
        }
        methods.sort(Comparator.comparing(Method::getName));
        List<String> names = new ArrayList<>();
        for (Method m : methods) {
            names.add(m.getName());
            runOne(m);
        }
        return names;
    }

    private static void runOne(Method m) {
        BENCH.part(m.getName());
        int ahead = BENCH.checks();
        try {
            m.setAccessible(true);
            m.invoke(null);
        } catch (InvocationTargetException e) {
            BENCH.due("it threw " + e.getCause(), 1, 0);
        } catch (IllegalAccessException e) {
            BENCH.due("it can't be run", 1, 0);
        }
        BENCH.due("it looks at something", BENCH.checks() > ahead, true);
    }

    static void due(String call, long got, long want) {
        BENCH.due(call, got, want);
    }

    static void due(String call, boolean got, boolean want) {
        BENCH.due(call, got, want);
    }

    static void due(String what, String got, String want) {
        BENCH.due(what + " (" + got + ", due is " + want + ")", got.equals(want), true);
    }

    static int book(CobwebLibrary x, int b, int what) {
        try {
            return x.book(b, what);
        } catch (NoSuchElementException e) {
            return THROWN;
        }
    }

    static int quarrel(CobwebLibrary x, int what) {
        try {
            return x.quarrel(what);
        } catch (NoSuchElementException e) {
            return THROWN;
        }
    }

    static CobwebLibrary made(String text) {
        return Bench.library(text);
    }

    static int library(CobwebLibrary x, String text) {
        Bench.feed(x, text);
        return x.library();
    }

    static int life(CobwebLibrary x, int lives, String text) {
        Bench.feed(x, text);
        return x.life(lives);
    }

    static int sentence(CobwebLibrary x, String text) {
        Bench.feed(x, text);
        return x.sentence();
    }

    static int asked(CobwebLibrary x, int n, int... bytes) {
        Bench.feed(x, bytes);
        return x.asked(n);
    }

    static int spun(CobwebLibrary x, int... bytes) {
        Bench.feed(x, bytes);
        return x.spun();
    }

    /** A library on a later day, on which nothing can be undone. */
    static CobwebLibrary late(String text, int day) {
        CobwebLibrary x = made(text);
        for (int gone = 0; gone < day; gone += 30) {
            x.days(Math.min(30, day - gone), 1);
        }
        x.image(1);
        x.restore(1);
        return x;
    }

    /** All that is so, as a text: for a library of a few books. */
    static String allOf(CobwebLibrary x) {
        StringBuilder s = new StringBuilder();
        for (int what = 0; what < 7; what++) {
            s.append(x.count(what)).append(' ').append(x.now(what)).append(' ');
        }
        for (int b = 0; b < x.count(0); b++) {
            for (int what = 0; what < 8; what++) {
                s.append(book(x, b, what)).append(' ');
            }
            for (int other = 0; other < b; other++) {
                s.append(x.thread(other, b)).append(' ');
            }
        }
        return s.append(x.said(NONE)).append(' ').append(x.said(0)).toString();
    }

    static void fine(String text, int lines) {
        CobwebLibrary x = new CobwebLibrary();
        due("library of '" + text + "'", library(x, text), lines);
        due("fault of '" + text + "'", x.fault(), 0);
    }

    static void faulty(String text, int place, int kind) {
        CobwebLibrary x = made("book old 1 1;");
        due("library of '" + text + "'", library(x, text), -1 - place);
        due("fault of '" + text + "'", x.fault(), kind);
    }
}
