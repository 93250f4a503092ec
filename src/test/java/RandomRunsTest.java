import java.nio.charset.StandardCharsets;
import java.util.ArrayList;
import java.util.Collections;
import java.util.List;
import java.util.Map;
import java.util.NoSuchElementException;
import java.util.Random;
import java.util.TreeMap;

/** Drawn runs of calls, compared call by call with the Model; the seeds are fixed, so each run is the same. */
public final class RandomRunsTest {
    private static final String[] NAMES = {"a", "bo", "kant", "hume", "ethics", "physics", "z", "plato", "law", "q"};
    private static final String[] WORDS = {
        "shelves", "book", "rare", "web", "thread", "quarrel", "law", "spin", "line", "draught", "ask", "broom",
        "move", "day", "or", "and", "not", "doubt", "lawful", "dogma", "asked", "follows", "dust", "bonds", "number",
        ";", "<", "=", ">", "(", ")", "0", "1", "2", "5", "99", "100", "1000", "abcdefgh", "a1", "1a", ".", "A", "\t"};
    private static final String[] EDGES = {"0", "1", "5", "6", "7", "12", "13", "30", "31", "50", "51", "99", "100", "007"};
    private static final boolean STATS = Boolean.getBoolean("stats");
    private static final Map<String, Integer> SEEN = new TreeMap<>();
    private static int wrong = 0;
    private static long calls = 0;

    private final Random random;
    private final CobwebLibrary real = new CobwebLibrary();
    private final Model model = new Model();
    private final List<String> log = new ArrayList<>();
    private boolean failed = false;
    private int used = 0;

    private RandomRunsTest(long seed) {
        random = new Random(seed);
    }

    public static void main(String[] args) {
        int runs = args.length > 0 ? Integer.parseInt(args[0]) : 1500;
        long first = args.length > 1 ? Long.parseLong(args[1]) : 0;
        for (long seed = first; seed < first + runs && wrong < 3; seed++) {
            RandomRunsTest run = new RandomRunsTest(seed);
            run.go(seed);
            calls += run.used;
        }
        System.out.println("RandomRunsTest: " + calls + " calls compared, " + wrong + " runs wrong");
        SEEN.forEach((key, times) -> System.out.println(key + ": " + times));
        if (wrong != 0) {
            System.exit(1);
        }
    }

    private void go(long seed) {
        int most = 512;
        if (random.nextInt(8) != 0) {
            tellLibrary();
        }
        int late = random.nextInt(4) == 0 ? 13 : 0;
        for (int k = 0; k < late; k++) {
            days(30, random.nextInt());
        }
        while (used < most - 60 && !failed) {
            step();
        }
        if (failed) {
            wrong++;
            System.out.println("seed " + seed + ":");
            for (String row : log) {
                System.out.println("  " + row);
            }
        }
    }

    private void check(String call, long got, long due) {
        used++;
        log.add(call + " answered " + got + (got == due ? "" : ", due is " + due));
        if (STATS) {
            String key = call.substring(0, call.indexOf('(')) + " " + (got < -1 ? "fault" : got > 6 ? "7.." : "" + got);
            SEEN.merge(key, 1, Integer::sum);
        }
        if (got != due) {
            failed = true;
        }
    }

    private int book() {
        int r = random.nextInt(30);
        if (r == 0) {
            return -1;
        }
        if (r == 1) {
            return wild();
        }
        return random.nextInt(random.nextInt(6) == 0 ? 9 : Math.max(1, real.count(0)));
    }

    private int wild() {
        int[] values = {Integer.MIN_VALUE, Integer.MAX_VALUE, -1, -2, 8, 9, 31, 32, 64, 400, 1000, random.nextInt()};
        return values[random.nextInt(values.length)];
    }

    private int small(int least, int most) {
        return random.nextInt(25) == 0 ? wild() : least - 1 + random.nextInt(most - least + 3);
    }

    private void feedBytes(byte[] bytes) {
        int length = real.count(7);
        int[] row = new int[5];
        for (int from = 0; from < bytes.length; from += 20) {
            for (int k = 0; k < 5; k++) {
                row[k] = 0;
                for (int j = 0; j < 4; j++) {
                    int i = from + 4 * k + j;
                    row[k] = row[k] << 8 | (i < bytes.length ? bytes[i] & 255 : 0);
                }
            }
            check("feed(" + row[0] + ", " + row[1] + ", " + row[2] + ", " + row[3] + ", " + row[4] + ")",
                real.feed(row[0], row[1], row[2], row[3], row[4]), model.feed(row[0], row[1], row[2], row[3], row[4]));
        }
        int n = length + bytes.length;
        check("end(" + n + ")", real.end(n) ? 1 : 0, model.end(n) ? 1 : 0);
    }

    private void feedText(String text) {
        log.add("text: " + text.replace("\n", "\\n"));
        feedBytes(text.getBytes(StandardCharsets.ISO_8859_1));
    }

    /** Blanks where they must be, and here and there where they may be. */
    private String joined(List<String> tokens) {
        StringBuilder s = new StringBuilder();
        for (String t : tokens) {
            boolean glued = s.length() > 0 && isRun(s.charAt(s.length() - 1)) && !t.isEmpty() && isRun(t.charAt(0));
            if (glued || random.nextInt(12) == 0) {
                s.append(random.nextInt(9) == 0 ? '\n' : ' ');
            }
            s.append(t);
        }
        return s.toString();
    }

    private static boolean isRun(char c) {
        return (c >= 'a' && c <= 'z') || (c >= '0' && c <= '9');
    }

    private List<String> spoiled(List<String> tokens) {
        List<String> s = new ArrayList<>(tokens);
        int times = 1 + random.nextInt(2);
        for (int k = 0; k < times; k++) {
            String other = random.nextInt(3) == 0 ? NAMES[random.nextInt(NAMES.length)] : WORDS[random.nextInt(WORDS.length)];
            int at = s.isEmpty() ? 0 : random.nextInt(s.size());
            switch (random.nextInt(4)) {
                case 0 -> s.add(at, other);
                case 1 -> {
                    if (!s.isEmpty()) {
                        boolean number = Character.isDigit(s.get(at).charAt(0));
                        s.set(at, number ? EDGES[random.nextInt(EDGES.length)] : other);
                    }
                }
                case 2 -> {
                    if (!s.isEmpty()) {
                        s.remove(at);
                    }
                }
                default -> {
                    if (!s.isEmpty()) {
                        s.add(random.nextInt(s.size() + 1), s.get(at));
                    }
                }
            }
        }
        return s;
    }

    private static void line(List<String> all, Object... tokens) {
        for (Object t : tokens) {
            all.add(t.toString());
        }
        all.add(";");
    }

    private List<String> libraryTokens() {
        List<String> t = new ArrayList<>();
        int wide = 4;
        int high = 4;
        if (random.nextInt(4) != 0) {
            wide = 2 + random.nextInt(5);
            high = 2 + random.nextInt(5);
            line(t, "shelves", wide, high);
        }
        if (random.nextInt(3) != 0) {
            line(t, "law", 1 + random.nextInt(random.nextInt(3) == 0 ? 50 : 12));
        }
        if (random.nextInt(2) == 0) {
            line(t, "spin", 1 + random.nextInt(5));
        }
        if (random.nextInt(2) == 0) {
            line(t, "line", 1 + random.nextInt(random.nextInt(3) == 0 ? 50 : 5));
        }
        int books = random.nextInt(random.nextInt(20) == 0 ? 11 : 9);
        int rare = 0;
        List<Integer> cells = new ArrayList<>();
        for (int cell = 0; cell < wide * high; cell++) {
            cells.add(cell);
        }
        Collections.shuffle(cells, random);
        for (int b = 0; b < books; b++) {
            String name = random.nextInt(60) == 0 ? NAMES[b % NAMES.length] : nameOf(b);
            boolean isRare = random.nextInt(3) == 0 && (rare < 3 || random.nextInt(30) == 0);
            rare += isRare ? 1 : 0;
            int cell = random.nextInt(60) == 0 ? random.nextInt(wide * high) : cells.get(b % cells.size());
            int x = cell % wide;
            int y = cell / wide;
            if (isRare) {
                line(t, "book", name, x, y, "rare");
            } else {
                line(t, "book", name, x, y);
            }
        }
        tellBetween(t, Math.min(books, 8));
        if (random.nextInt(2) == 0) {
            line(t, "draught", random.nextInt(13));
        }
        return t;
    }

    /** Webs, threads and quarrels, each once but for a rare slip. */
    private void tellBetween(List<String> t, int books) {
        List<int[]> pairs = new ArrayList<>();
        for (int a = 0; a < books; a++) {
            if (random.nextInt(2) == 0) {
                line(t, "web", nameOf(a), 1 + random.nextInt(random.nextInt(3) == 0 ? 99 : 14));
            }
            for (int b = 0; b < books; b++) {
                if (random.nextInt(200) == 0 || (a < b && random.nextInt(5) == 0)) {
                    pairs.add(random.nextBoolean() ? new int[] {a, b} : new int[] {b, a});
                }
            }
        }
        Collections.shuffle(pairs, random);
        for (int[] pair : pairs) {
            if (random.nextInt(3) != 0) {
                line(t, "thread", nameOf(pair[0]), nameOf(pair[1]), 1 + random.nextInt(random.nextBoolean() ? 99 : 6));
            }
            if (random.nextInt(3) == 0) {
                line(t, "quarrel", nameOf(pair[0]), nameOf(pair[1]));
            }
        }
    }

    private static String nameOf(int b) {
        return "n" + (char) ('a' + b);
    }

    private void padToEdge(StringBuilder text, int most) {
        int goal = most - 8 + random.nextInt(14);
        while (text.length() < goal) {
            text.insert(random.nextInt(3) == 0 ? 0 : text.length(), ' ');
        }
    }

    private String edged(String text, int most) {
        if (random.nextInt(25) != 0) {
            return text;
        }
        StringBuilder s = new StringBuilder(text);
        padToEdge(s, most);
        if (random.nextInt(2) == 0) {
            s.append(random.nextInt(2) == 0 ? "law 5;" : "abcdefgh");
        }
        return s.length() > 930 ? s.substring(0, 930) : s.toString();
    }

    private void tellLibrary() {
        for (int tries = 0; tries < 6; tries++) {
            List<String> t = libraryTokens();
            feedText(edged(joined(random.nextInt(8) == 0 ? spoiled(t) : t), 900));
            check("library()", real.library(), model.library());
            check("fault()", real.fault(), model.fault());
            if (real.fault() == 0 || used > 300) {
                return;
            }
        }
    }

    private String name() {
        return random.nextInt(12) == 0 ? NAMES[random.nextInt(NAMES.length)]
            : nameOf(random.nextInt(Math.max(1, real.count(0))));
    }

    private void tellLife() {
        List<String> t = new ArrayList<>();
        int lines = random.nextInt(25) == 0 ? 39 + random.nextInt(4) : random.nextInt(7);
        for (int k = 0; k < lines; k++) {
            switch (random.nextInt(lines > 30 ? 7 : 4)) {
                case 0 -> line(t, "ask", name());
                case 1 -> line(t, "broom", random.nextInt(6));
                case 2 -> line(t, "move", name(), random.nextInt(5), random.nextInt(5));
                default -> line(t, "day", 1 + random.nextInt(lines > 30 ? 9 : 30));
            }
        }
        feedText(edged(joined(random.nextInt(5) == 0 ? spoiled(t) : t), 400));
        int lives = random.nextInt(12) == 0 ? wild() : random.nextInt(2);
        check("life(" + lives + ")", real.life(lives), model.life(lives));
        check("fault()", real.fault(), model.fault());
        for (int k = -1; k <= 4; k++) {
            check("told(" + k + ")", real.told(k), model.told(k));
        }
    }

    private void cond(List<String> t, int depth) {
        for (int k = random.nextInt(3); k >= 0; k--) {
            one(t, depth);
            if (k > 0) {
                t.add(random.nextBoolean() ? "or" : "and");
            }
        }
    }

    private void one(List<String> t, int depth) {
        if (depth < 9 && random.nextInt(10) < 6) {
            if (random.nextBoolean()) {
                t.add("not");
                one(t, depth + 1);
            } else {
                t.add("(");
                cond(t, depth + 1);
                t.add(")");
            }
            return;
        }
        String[] plain = {"doubt", "lawful", "dogma", "rare", "asked"};
        String[] measure = {"dust", "bonds", "number"};
        String[] signs = {"<", "=", ">"};
        switch (random.nextInt(3)) {
            case 0 -> t.add(plain[random.nextInt(5)]);
            case 1 -> {
                t.add("follows");
                t.add(name());
            }
            default -> {
                t.add(measure[random.nextInt(3)]);
                t.add(signs[random.nextInt(3)]);
                t.add("" + random.nextInt(random.nextBoolean() ? 5 : 40));
            }
        }
    }

    private void tellSentence() {
        List<String> t = new ArrayList<>();
        cond(t, 1);
        while (t.size() > 60) {
            t.remove(t.size() - 1);
        }
        feedText(edged(joined(random.nextInt(5) == 0 ? spoiled(t) : t), 200));
        check("sentence()", real.sentence(), model.sentence());
        check("fault()", real.fault(), model.fault());
        sayAll();
    }

    private void sayAll() {
        for (int k = -2; k < 3; k++) {
            check("said(" + k + ")", real.said(k), model.said(k));
        }
    }

    private void askedByTape() {
        int pairs = random.nextInt(12) == 0 ? random.nextInt(10) : 1 + random.nextInt(2);
        byte[] bytes = new byte[2 * pairs + (random.nextInt(15) == 0 ? 1 : 0)];
        for (int k = 0; k < pairs; k++) {
            int b = book();
            bytes[2 * k] = (byte) b;
            int web = b >= 0 && b < real.count(0) && random.nextInt(3) == 0 ? real.book(b, 2) : 0;
            bytes[2 * k + 1] = (byte) (random.nextInt(20) == 0 ? random.nextInt(256)
                : Math.min(99, web + real.count(4) * random.nextInt(4)));
        }
        feedBytes(bytes);
        int n = random.nextInt(8) == 0 ? small(1, 3) : 1 + random.nextInt(real.count(0) > 5 ? 2 : 3);
        check("asked(" + n + ")", real.asked(n), model.asked(n));
        for (int k = -1; k < 4; k++) {
            check("askedAt(" + k + ")", real.askedAt(k), model.askedAt(k));
        }
    }

    private void spunByTape() {
        int triples = random.nextInt(12) == 0 ? random.nextInt(8) : 1 + random.nextInt(2);
        byte[] bytes = new byte[3 * triples + (random.nextInt(15) == 0 ? 1 : 0)];
        int spin = 1 + random.nextInt(5);
        for (int k = 0; k < triples; k++) {
            int web = random.nextInt(100);
            int days = random.nextInt(20) == 0 ? random.nextInt(256) : 1 + random.nextInt(20);
            bytes[3 * k] = (byte) (random.nextInt(30) == 0 ? 100 : web);
            bytes[3 * k + 1] = (byte) days;
            bytes[3 * k + 2] = (byte) (random.nextInt(20) == 0 ? random.nextInt(256) : Math.min(99, web + spin * days));
        }
        feedBytes(bytes);
        check("spun()", real.spun(), model.spun());
    }

    private void days(int n, int seed) {
        check("days(" + n + ", " + seed + ")", real.days(n, seed), model.days(n, seed));
    }

    private void readBook() {
        int b = book();
        for (int what = -1; what <= 8; what++) {
            int got = 0;
            int due = 0;
            int gotThrown = 0;
            int dueThrown = 0;
            try {
                got = real.book(b, what);
            } catch (NoSuchElementException e) {
                gotThrown = 1;
            }
            try {
                due = model.book(b, what);
            } catch (NoSuchElementException e) {
                dueThrown = 1;
            }
            check("book(" + b + ", " + what + ")", got + 1000L * gotThrown, due + 1000L * dueThrown);
        }
    }

    private void readQuarrels() {
        check("quarrels()", real.quarrels(), model.quarrels());
        for (int what = -1; what <= 2; what++) {
            int got = 0;
            int due = 0;
            try {
                got = real.quarrel(what);
            } catch (NoSuchElementException e) {
                got = 1000;
            }
            try {
                due = model.quarrel(what);
            } catch (NoSuchElementException e) {
                due = 1000;
            }
            check("quarrel(" + what + ")", got, due);
        }
    }

    private void readAll() {
        for (int k = -1; k <= 7; k++) {
            check("now(" + k + ")", real.now(k), model.now(k));
        }
        for (int k = -1; k <= 8; k++) {
            check("count(" + k + ")", real.count(k), model.count(k));
        }
    }

    private void act() {
        int b = book();
        int x = small(0, 5);
        int y = small(0, 5);
        switch (random.nextInt(8)) {
            case 0, 1 -> check("ask(" + b + ")", real.ask(b), model.ask(b));
            case 2 -> check("broom(" + y + ")", real.broom(y), model.broom(y));
            case 3, 4 -> check("move(" + b + ", " + x + ", " + y + ")", real.move(b, x, y), model.move(b, x, y));
            default -> days(small(1, random.nextBoolean() ? 4 : 30), random.nextInt());
        }
    }

    private void step() {
        int b = book();
        int c = book();
        switch (random.nextInt(26)) {
            case 0, 1, 2, 3, 4, 5 -> act();
            case 6 -> check("undo()", real.undo(), model.undo());
            case 7 -> readBook();
            case 8 -> readAll();
            case 9 -> readQuarrels();
            case 10 -> {
                check("thread(" + b + ", " + c + ")", real.thread(b, c), model.thread(b, c));
                check("sight(" + b + ")", real.sight(b), model.sight(b));
                int x = small(0, 5);
                int y = small(0, 5);
                check("at(" + x + ", " + y + ")", real.at(x, y), model.at(x, y));
            }
            case 11 -> {
                check("when(" + b + ")", real.when(b), model.when(b));
                check("follow(" + b + ")", real.follow(b), model.follow(b));
            }
            case 12, 13 -> {
                check("way(" + b + ", " + c + ")", real.way(b, c), model.way(b, c));
                for (int k = -1; k < 5; k++) {
                    check("wayAt(" + k + ")", real.wayAt(k), model.wayAt(k));
                }
            }
            case 14 -> {
                int n = random.nextInt(5) == 0 ? small(1, 8) : 1 + random.nextInt(5);
                check("keep(" + n + ")", real.keep(n), model.keep(n));
                for (int k = -1; k < 9; k++) {
                    check("keepAt(" + k + ")", real.keepAt(k), model.keepAt(k));
                }
            }
            case 15 -> askedByTape();
            case 16 -> spunByTape();
            case 17, 18 -> {
                check("torn(" + b + ")", real.torn(b), model.torn(b));
                check("steps()", real.steps(), model.steps());
            }
            case 19 -> {
                int n = random.nextInt(8) == 0 ? small(1, 3) : 1 + random.nextInt(real.count(0) > 5 ? 2 : 3);
                check("turns(" + n + ")", real.turns(n), model.turns(n));
                check("turn()", real.turn(), model.turn());
            }
            case 20 -> {
                check("catalogue(" + b + ")", real.catalogue(b), model.catalogue(b));
                for (int k = -1; k < 28; k += 1 + random.nextInt(4)) {
                    check("byteAt(" + k + ")", real.byteAt(k), model.byteAt(k));
                }
            }
            case 21 -> {
                int n = small(1, 30);
                int seed = random.nextInt(4) == 0 ? wild() : random.nextInt();
                check("odds(" + b + ", " + n + ", " + seed + ")", real.odds(b, n, seed), model.odds(b, n, seed));
            }
            case 22 -> tellLife();
            case 23 -> {
                if (random.nextInt(3) == 0) {
                    sayAll();
                } else {
                    tellSentence();
                }
            }
            case 24 -> {
                int k = small(0, 1);
                if (random.nextBoolean()) {
                    check("image(" + k + ")", real.image(k) ? 1 : 0, model.image(k) ? 1 : 0);
                } else {
                    check("restore(" + k + ")", real.restore(k) ? 1 : 0, model.restore(k) ? 1 : 0);
                    sayAll();
                }
            }
            default -> {
                if (random.nextInt(6) == 0) {
                    tellLibrary();
                } else if (random.nextInt(3) == 0) {
                    int n = wild();
                    check("end(" + n + ")", real.end(n) ? 1 : 0, model.end(n) ? 1 : 0);
                    check("fault()", real.fault(), model.fault());
                }
            }
        }
    }
}
