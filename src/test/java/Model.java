import java.nio.charset.StandardCharsets;
import java.util.ArrayList;
import java.util.Arrays;
import java.util.HashSet;
import java.util.LinkedHashMap;
import java.util.List;
import java.util.Map;
import java.util.NoSuchElementException;
import java.util.Set;
import java.util.TreeMap;
import java.util.regex.Matcher;
import java.util.regex.Pattern;

/** The document told a second time, slowly and by brute force, for RandomRunsTest to compare with. */
final class Model {
    static final int NONE = -1;
    private static final Set<String> WORDS = new HashSet<>(Arrays.asList(
        "shelves", "book", "rare", "web", "thread", "quarrel", "law", "spin", "line", "draught",
        "ask", "broom", "move", "day",
        "or", "and", "not", "doubt", "lawful", "dogma", "asked", "follows", "dust", "bonds", "number"));
    private static final Pattern PIECE = Pattern.compile("[a-z0-9]+|[^ \\n]", Pattern.DOTALL);

    static final class Fault extends RuntimeException {
        private static final long serialVersionUID = 1L;
        final int kind;
        final int place;

        Fault(int kind, int place) {
            this.kind = kind;
            this.place = place;
        }
    }

    record Token(int place, String text) {
        boolean isWord() {
            return text.matches("[a-z]{1,7}");
        }

        boolean isNumber() {
            return text.matches("[0-9]{1,3}");
        }

        boolean isEnd() {
            return text.isEmpty();
        }

        boolean isName() {
            return isWord() && !WORDS.contains(text);
        }

        boolean is(String other) {
            return text.equals(other);
        }
    }

    static final class Text {
        private final List<Token> tokens = new ArrayList<>();
        private int at = 0;

        Text(String all, int most) {
            int edge = Math.min(all.length(), most);
            Matcher piece = PIECE.matcher(all);
            while (piece.find() && piece.start() < edge) {
                tokens.add(new Token(piece.start(), piece.group()));
            }
            tokens.add(new Token(edge, ""));
            tooLong = all.length() > most;
        }

        final boolean tooLong;

        Token peek() {
            return tokens.get(at);
        }

        Token take() {
            Token t = tokens.get(at);
            if (!t.isEnd()) {
                at++;
            }
            return t;
        }

        void sign(String s) {
            Token t = take();
            if (!t.is(s)) {
                throw new Fault(1, t.place);
            }
        }

        int number(int least, int most) {
            Token t = take();
            if (!t.isNumber()) {
                throw new Fault(1, t.place);
            }
            int n = Integer.parseInt(t.text);
            if (n < least || n > most) {
                throw new Fault(2, t.place);
            }
            return n;
        }

        void close() {
            if (!peek().isEnd() || tooLong) {
                throw new Fault(1, peek().place);
            }
        }
    }

    static final class Lib {
        int wide = 4;
        int high = 4;
        int law = 10;
        int spin = 1;
        int line = 3;
        int draught = 0;
        final List<String> names = new ArrayList<>();
        final List<Integer> rare = new ArrayList<>();
        final Set<Set<Integer>> quarrels = new HashSet<>();

        int size() {
            return names.size();
        }

        int told(Text text) {
            Token t = text.take();
            if (!t.isName()) {
                throw new Fault(1, t.place);
            }
            if (!names.contains(t.text)) {
                throw new Fault(3, t.place);
            }
            return names.indexOf(t.text);
        }
    }

    static final class State {
        int day = 0;
        final List<int[]> cells = new ArrayList<>();
        final List<Integer> webs = new ArrayList<>();
        final List<Integer> asks = new ArrayList<>();
        final Set<Integer> today = new HashSet<>();
        final Map<Set<Integer>, Integer> threads = new LinkedHashMap<>();

        State copy() {
            State s = new State();
            s.day = day;
            for (int[] c : cells) {
                s.cells.add(c.clone());
            }
            s.webs.addAll(webs);
            s.asks.addAll(asks);
            s.today.addAll(today);
            s.threads.putAll(threads);
            return s;
        }

        int thread(int a, int b) {
            return threads.getOrDefault(Set.of(a, b), 0);
        }

        void cut(int b) {
            threads.keySet().removeIf(pair -> pair.contains(b));
        }

        int in(int x, int y) {
            for (int b = 0; b < cells.size(); b++) {
                if (cells.get(b)[0] == x && cells.get(b)[1] == y) {
                    return b;
                }
            }
            return NONE;
        }

        /** Looks along each of four ways till the first book. */
        Set<Integer> sight(int b) {
            Set<Integer> seen = new HashSet<>();
            int[][] ways = {{1, 0}, {-1, 0}, {0, 1}, {0, -1}};
            for (int[] way : ways) {
                int x = cells.get(b)[0] + way[0];
                int y = cells.get(b)[1] + way[1];
                while (x >= 0 && y >= 0 && x < 6 && y < 6 && in(x, y) == NONE) {
                    x += way[0];
                    y += way[1];
                }
                if (in(x, y) != NONE) {
                    seen.add(in(x, y));
                }
            }
            return seen;
        }
    }

    private interface Cond {
        boolean of(int b);
    }

    record Act(String verb, int a, int x, int y) {
    }

    private byte[] tape = new byte[0];
    private Lib lib = new Lib();
    private State st = new State();
    private Cond spoken = null;
    private int fault = 0;
    private final List<State> past = new ArrayList<>();
    private final Map<Integer, Object[]> images = new TreeMap<>();
    private List<Integer> way = new ArrayList<>();
    private List<Integer> kept = new ArrayList<>();
    private List<Integer> askedRow = new ArrayList<>();
    private int steps = NONE;
    private int turn = NONE;
    private String card = "";
    private int[] told = null;
    private int ones = 0;

    int feed(int a, int b, int c, int d, int e) {
        if (tape.length + 20 > 940) {
            return NONE;
        }
        java.nio.ByteBuffer buffer = java.nio.ByteBuffer.allocate(tape.length + 20);
        buffer.put(tape).putInt(a).putInt(b).putInt(c).putInt(d).putInt(e);
        tape = buffer.array();
        return tape.length;
    }

    boolean end(int n) {
        if (n < 0 || n > tape.length) {
            return false;
        }
        tape = Arrays.copyOf(tape, n);
        return true;
    }

    private String takeTape() {
        String s = new String(tape, StandardCharsets.ISO_8859_1);
        tape = new byte[0];
        return s;
    }

    int library() {
        Text text = new Text(takeTape(), 900);
        Lib l = new Lib();
        State s = new State();
        int lines = 0;
        try {
            Set<String> once = new HashSet<>();
            Set<Integer> webs = new HashSet<>();
            while (!text.peek().isEnd()) {
                readLine(text, l, s, once, webs);
                text.sign(";");
                lines++;
            }
            text.close();
        } catch (Fault f) {
            fault = f.kind;
            return -1 - f.place;
        }
        fault = 0;
        lib = l;
        st = s;
        spoken = null;
        past.clear();
        return lines;
    }

    private static void readLine(Text text, Lib l, State s, Set<String> once, Set<Integer> webs) {
        Token t = text.take();
        if (Set.of("shelves", "law", "spin", "line", "draught").contains(t.text)) {
            if (!once.add(t.text) || (t.is("shelves") && l.size() > 0)) {
                throw new Fault(3, t.place);
            }
        }
        switch (t.text) {
            case "shelves" -> {
                l.wide = text.number(2, 6);
                l.high = text.number(2, 6);
            }
            case "law" -> l.law = text.number(1, 50);
            case "spin" -> l.spin = text.number(1, 5);
            case "line" -> l.line = text.number(1, 50);
            case "draught" -> l.draught = text.number(0, 12);
            case "book" -> readBook(text, l, s, t);
            case "web" -> {
                int place = text.peek().place;
                int b = l.told(text);
                if (!webs.add(b)) {
                    throw new Fault(3, place);
                }
                s.webs.set(b, text.number(1, 99));
            }
            case "thread" -> {
                Set<Integer> pair = readPair(text, l, s.threads.keySet());
                s.threads.put(pair, text.number(1, 99));
            }
            case "quarrel" -> l.quarrels.add(readPair(text, l, l.quarrels));
            default -> throw new Fault(1, t.place);
        }
    }

    private static void readBook(Text text, Lib l, State s, Token first) {
        if (l.size() == 8) {
            throw new Fault(4, first.place);
        }
        Token name = text.take();
        if (!name.isName()) {
            throw new Fault(1, name.place);
        }
        if (l.names.contains(name.text)) {
            throw new Fault(3, name.place);
        }
        int x = text.number(0, l.wide - 1);
        int place = text.peek().place;
        int y = text.number(0, l.high - 1);
        if (s.in(x, y) != NONE) {
            throw new Fault(3, place);
        }
        if (text.peek().is("rare")) {
            Token rare = text.take();
            if (l.rare.size() == 3) {
                throw new Fault(4, rare.place);
            }
            l.rare.add(l.size());
        }
        l.names.add(name.text);
        s.cells.add(new int[] {x, y});
        s.webs.add(0);
        s.asks.add(0);
    }

    private static Set<Integer> readPair(Text text, Lib l, Set<Set<Integer>> told) {
        int a = l.told(text);
        int place = text.peek().place;
        int b = l.told(text);
        if (a == b || told.contains(Set.of(a, b))) {
            throw new Fault(3, place);
        }
        return Set.of(a, b);
    }

    int fault() {
        return fault;
    }

    private boolean no(int b) {
        return b < 0 || b >= lib.size();
    }

    private int reads(int web) {
        return web < lib.law ? 0 : web < 2 * lib.law ? 1 : 2;
    }

    private static int bits(Iterable<Integer> books) {
        int bits = 0;
        for (int b : books) {
            bits |= 1 << b;
        }
        return bits;
    }

    private List<Integer> lines(State s, int b) {
        List<Integer> others = new ArrayList<>();
        for (int c = 0; c < lib.size(); c++) {
            if (c != b && s.thread(b, c) >= lib.line) {
                others.add(c);
            }
        }
        return others;
    }

    int book(int b, int what) {
        if (no(b) || what < 0 || what > 7) {
            throw new NoSuchElementException();
        }
        return switch (what) {
            case 0 -> st.cells.get(b)[0];
            case 1 -> st.cells.get(b)[1];
            case 2 -> st.webs.get(b);
            case 3 -> reads(st.webs.get(b));
            case 4 -> lib.rare.contains(b) ? 1 : 0;
            case 5 -> st.today.contains(b) ? 1 : 0;
            case 6 -> st.asks.get(b);
            default -> bits(lines(st, b));
        };
    }

    int thread(int a, int b) {
        return no(a) || no(b) || a == b ? NONE : st.thread(a, b);
    }

    int sight(int b) {
        return no(b) ? NONE : bits(st.sight(b));
    }

    int at(int x, int y) {
        return st.in(x, y);
    }

    private List<Integer> reading(State s, int least, int most) {
        List<Integer> books = new ArrayList<>();
        for (int b = 0; b < lib.size(); b++) {
            if (reads(s.webs.get(b)) >= least && reads(s.webs.get(b)) <= most) {
                books.add(b);
            }
        }
        return books;
    }

    int now(int what) {
        return switch (what) {
            case 0 -> st.day;
            case 1 -> bits(reading(st, 1, 1));
            case 2 -> bits(reading(st, 2, 2));
            case 3 -> bits(st.today);
            case 4 -> st.webs.stream().mapToInt(i -> i).sum();
            case 5 -> st.threads.values().stream().mapToInt(i -> i).sum();
            case 6 -> st.asks.stream().mapToInt(i -> i).sum();
            default -> NONE;
        };
    }

    private void remember(State before) {
        past.add(before);
        if (past.size() > 8) {
            past.remove(0);
        }
    }

    private int act(State s, Act act) {
        switch (act.verb) {
            case "ask" -> {
                if (!s.today.add(act.a)) {
                    return 1;
                }
                s.webs.set(act.a, 0);
                s.cut(act.a);
                s.asks.set(act.a, s.asks.get(act.a) + 1);
            }
            case "broom" -> {
                if (act.y >= lib.high) {
                    return 19;
                }
                boolean any = false;
                List<Integer> row = new ArrayList<>();
                for (int b = 0; b < lib.size(); b++) {
                    if (s.cells.get(b)[1] == act.y) {
                        row.add(b);
                        any |= s.webs.get(b) > 0;
                        for (int c = 0; c < lib.size(); c++) {
                            any |= c != b && s.thread(b, c) > 0;
                        }
                    }
                }
                if (!any) {
                    return 11;
                }
                for (int b : row) {
                    s.webs.set(b, 0);
                    s.cut(b);
                }
            }
            case "move" -> {
                if (act.x >= lib.wide || act.y >= lib.high) {
                    return 29;
                }
                if (s.in(act.x, act.y) != NONE) {
                    return 21;
                }
                s.cells.set(act.a, new int[] {act.x, act.y});
                s.cut(act.a);
            }
            default -> {
                if (s.day + act.a > 400) {
                    return 31;
                }
                go(s, act.a, act.a, true);
            }
        }
        return 0;
    }

    /** Lets days go as far as there are; answers how many. */
    private int go(State s, int n, int seed, boolean draughts) {
        int x = seed;
        int gone = 0;
        while (gone < n && s.day < 400) {
            for (int b = 0; b < lib.size(); b++) {
                if (!s.today.contains(b)) {
                    s.webs.set(b, Math.min(99, s.webs.get(b) + lib.spin));
                    for (int c : s.sight(b)) {
                        if (b < c && !s.today.contains(c)) {
                            s.threads.put(Set.of(b, c), Math.min(99, s.thread(b, c) + 1));
                        }
                    }
                }
            }
            x = x * 1103515245 + 12345;
            if (draughts && (x >>> 8) % 12 < lib.draught && lib.size() > 0) {
                x = x * 1103515245 + 12345;
                int b = (x >>> 8) % lib.size();
                s.webs.set(b, s.webs.get(b) / 2);
                s.cut(b);
            }
            s.day++;
            s.today.clear();
            gone++;
        }
        return gone;
    }

    private int doAct(Act act) {
        State before = st.copy();
        int why = act(st, act);
        if (why == 0) {
            remember(before);
        }
        return why % 10;
    }

    int ask(int b) {
        return no(b) ? NONE : doAct(new Act("ask", b, 0, 0));
    }

    int broom(int y) {
        return y < 0 || y >= lib.high ? NONE : doAct(new Act("broom", 0, 0, y));
    }

    int move(int b, int x, int y) {
        if (no(b) || x < 0 || y < 0 || x >= lib.wide || y >= lib.high) {
            return NONE;
        }
        return doAct(new Act("move", b, x, y));
    }

    int days(int n, int seed) {
        if (n < 1 || n > 30) {
            return NONE;
        }
        State before = st.copy();
        int gone = go(st, n, seed, true);
        if (gone > 0) {
            remember(before);
        }
        return gone;
    }

    int undo() {
        if (past.isEmpty()) {
            return NONE;
        }
        st = past.remove(past.size() - 1);
        return past.size();
    }

    int when(int b) {
        if (no(b)) {
            return NONE;
        }
        State s = st.copy();
        int gone = 0;
        while (reads(s.webs.get(b)) == 0) {
            if (go(s, 1, 0, false) == 0) {
                return NONE;
            }
            gone++;
        }
        return gone;
    }

    private Set<Integer> following(State s, int b) {
        Set<Integer> all = new HashSet<>();
        List<Integer> open = new ArrayList<>(List.of(b));
        while (!open.isEmpty()) {
            int c = open.remove(0);
            if (all.add(c)) {
                open.addAll(lines(s, c));
            }
        }
        return all;
    }

    int follow(int b) {
        return no(b) ? NONE : bits(following(st, b));
    }

    int way(int a, int b) {
        if (no(a) || no(b)) {
            return NONE;
        }
        for (int length = 0; length < 8; length++) {
            List<Integer> path = new ArrayList<>(List.of(a));
            if (extend(path, length, b)) {
                way = path;
                return length;
            }
        }
        return NONE;
    }

    private boolean extend(List<Integer> path, int more, int goal) {
        int here = path.get(path.size() - 1);
        if (more == 0) {
            return here == goal;
        }
        for (int c : lines(st, here)) {
            if (!path.contains(c)) {
                path.add(c);
                if (extend(path, more - 1, goal)) {
                    return true;
                }
                path.remove(path.size() - 1);
            }
        }
        return false;
    }

    private static int pick(List<Integer> row, int k) {
        return k >= 0 && k < row.size() ? row.get(k) : NONE;
    }

    int wayAt(int k) {
        return pick(way, k);
    }

    private List<int[]> quarrelling() {
        List<int[]> pairs = new ArrayList<>();
        List<Integer> laws = reading(st, 1, 2);
        for (int a : laws) {
            for (int b : laws) {
                if (a < b && lib.quarrels.contains(Set.of(a, b))) {
                    pairs.add(new int[] {a, b});
                }
            }
        }
        return pairs;
    }

    int quarrels() {
        return quarrelling().size();
    }

    int quarrel(int what) {
        if (quarrelling().isEmpty() || what < 0 || what > 1) {
            throw new NoSuchElementException();
        }
        return quarrelling().get(0)[what];
    }

    /** Books in their order, then none: what may be asked for. */
    private List<Integer> choices(State s) {
        List<Integer> all = new ArrayList<>();
        for (int b = 0; b < lib.size(); b++) {
            if (!s.today.contains(b)) {
                all.add(b);
            }
        }
        all.add(NONE);
        return all;
    }

    private State behind(State s, int choice) {
        State next = s.copy();
        if (choice != NONE) {
            act(next, new Act("ask", choice, 0, 0));
        }
        go(next, 1, 0, false);
        return next;
    }

    private void keepRows(State s, int n, List<Integer> row, List<List<Integer>> best) {
        long used = row.stream().filter(b -> b != NONE).count();
        if (n == 0) {
            if (best.isEmpty() || used < best.get(0).stream().filter(b -> b != NONE).count()) {
                best.clear();
                best.add(new ArrayList<>(row));
            }
            return;
        }
        for (int choice : choices(s)) {
            if (choice == NONE || lib.rare.contains(choice)) {
                State next = behind(s, choice);
                if (lib.rare.stream().allMatch(b -> reads(next.webs.get(b)) == 0)) {
                    row.add(choice);
                    keepRows(next, n - 1, row, best);
                    row.remove(row.size() - 1);
                }
            }
        }
    }

    int keep(int n) {
        if (n < 1 || n > 8 || st.day + n > 400) {
            return NONE;
        }
        List<List<Integer>> best = new ArrayList<>();
        keepRows(st, n, new ArrayList<>(), best);
        if (best.isEmpty()) {
            return NONE;
        }
        kept = best.get(0);
        return (int) kept.stream().filter(b -> b != NONE).count();
    }

    int keepAt(int k) {
        return pick(kept, k);
    }

    private void askRows(State s, int n, List<Integer> row, byte[] wanted, List<List<Integer>> found) {
        if (n == 0) {
            for (int k = 0; k < wanted.length; k += 2) {
                if (s.webs.get(wanted[k]) != wanted[k + 1]) {
                    return;
                }
            }
            found.add(new ArrayList<>(row));
            return;
        }
        for (int choice : choices(s)) {
            row.add(choice);
            askRows(behind(s, choice), n - 1, row, wanted, found);
            row.remove(row.size() - 1);
        }
    }

    int asked(int n) {
        byte[] wanted = tape;
        tape = new byte[0];
        boolean ok = wanted.length >= 2 && wanted.length <= 16 && wanted.length % 2 == 0;
        for (int k = 0; ok && k < wanted.length; k += 2) {
            ok = !no(wanted[k] & 255) && (wanted[k + 1] & 255) <= 99;
        }
        if (!ok || n < 1 || n > 3 || st.day + n > 400) {
            return NONE;
        }
        List<List<Integer>> found = new ArrayList<>();
        askRows(st, n, new ArrayList<>(), wanted, found);
        if (!found.isEmpty()) {
            askedRow = found.get(0);
        }
        return found.size();
    }

    int askedAt(int k) {
        return pick(askedRow, k);
    }

    int spun() {
        byte[] t = tape;
        tape = new byte[0];
        if (t.length < 3 || t.length > 18 || t.length % 3 != 0) {
            return NONE;
        }
        int all = 0;
        for (int spin = 1; spin <= 5; spin++) {
            boolean fits = true;
            for (int k = 0; k < t.length; k += 3) {
                int web = t[k] & 255;
                int days = t[k + 1] & 255;
                int behind = t[k + 2] & 255;
                if (web > 99 || behind > 99 || days < 1 || days > 99) {
                    return NONE;
                }
                for (int d = 0; d < days; d++) {
                    web = Math.min(99, web + spin);
                }
                fits &= web == behind;
            }
            all |= fits ? 1 << spin : 0;
        }
        return all;
    }

    private int hangs(int x, int y) {
        int sum = 0;
        for (Map.Entry<Set<Integer>, Integer> e : st.threads.entrySet()) {
            List<Integer> pair = new ArrayList<>(e.getKey());
            int[] a = st.cells.get(pair.get(0));
            int[] b = st.cells.get(pair.get(1));
            boolean inRow = a[1] == b[1] && y == a[1] && x > Math.min(a[0], b[0]) && x < Math.max(a[0], b[0]);
            boolean inColumn = a[0] == b[0] && x == a[0] && y > Math.min(a[1], b[1]) && y < Math.max(a[1], b[1]);
            sum += inRow || inColumn ? e.getValue() : 0;
        }
        return sum;
    }

    /** The least torn with just k steps, for each k up to all cells. */
    int torn(int b) {
        if (no(b)) {
            return NONE;
        }
        int[] goal = st.cells.get(b);
        Map<List<Integer>, Integer> reach = new LinkedHashMap<>();
        reach.put(List.of(0, 0), hangs(0, 0));
        int least = Integer.MAX_VALUE;
        for (int k = 0; k <= 36; k++) {
            Integer there = reach.get(List.of(goal[0], goal[1]));
            if (there != null && there < least) {
                least = there;
                steps = k;
            }
            Map<List<Integer>, Integer> next = new LinkedHashMap<>();
            for (Map.Entry<List<Integer>, Integer> e : reach.entrySet()) {
                int[][] ways = {{1, 0}, {-1, 0}, {0, 1}, {0, -1}};
                for (int[] w : ways) {
                    int x = e.getKey().get(0) + w[0];
                    int y = e.getKey().get(1) + w[1];
                    if (x >= 0 && y >= 0 && x < lib.wide && y < lib.high) {
                        next.merge(List.of(x, y), e.getValue() + hangs(x, y), Math::min);
                    }
                }
            }
            reach = next;
        }
        return least;
    }

    int steps() {
        return steps;
    }

    /** How many laws, and the choice that leads to them. */
    private int[] play(State s, int n, boolean most) {
        if (n == 0) {
            return new int[] {reading(s, 1, 2).size(), NONE};
        }
        int[] best = null;
        for (int choice : choices(s)) {
            int laws = play(behind(s, choice), n - 1, !most)[0];
            if (best == null || (most && laws > best[0]) || (!most && laws < best[0])) {
                best = new int[] {laws, choice};
            }
        }
        return best;
    }

    int turns(int n) {
        if (n < 1 || n > 3 || st.day + n > 400) {
            return NONE;
        }
        int[] best = play(st, n, true);
        turn = best[1];
        return best[0];
    }

    int turn() {
        return turn;
    }

    int catalogue(int b) {
        if (no(b)) {
            return NONE;
        }
        String[] how = {" is in doubt", " is law", " is dogma"};
        card = lib.names.get(b) + how[reads(st.webs.get(b))] + " by " + st.webs.get(b);
        return card.length();
    }

    int byteAt(int i) {
        return i >= 0 && i < card.length() ? card.charAt(i) : NONE;
    }

    int odds(int b, int n, int seed) {
        if (no(b) || n < 1 || n > 30) {
            return NONE;
        }
        int laws = 0;
        for (int k = 0; k < n; k++) {
            State s = st.copy();
            go(s, 30, seed + k, true);
            laws += reads(s.webs.get(b)) > 0 ? 1 : 0;
        }
        return laws;
    }

    int life(int lives) {
        if (lives != 0 && lives != 1) {
            return -1000;
        }
        Text text = new Text(takeTape(), 400);
        List<Act> acts = new ArrayList<>();
        try {
            while (!text.peek().isEnd()) {
                Token t = text.take();
                if (!Set.of("ask", "broom", "move", "day").contains(t.text)) {
                    throw new Fault(1, t.place);
                }
                if (acts.size() == 40) {
                    throw new Fault(4, t.place);
                }
                acts.add(switch (t.text) {
                    case "ask" -> new Act("ask", lib.told(text), 0, 0);
                    case "broom" -> new Act("broom", 0, 0, text.number(0, 5));
                    case "move" -> new Act("move", lib.told(text), text.number(0, 5), text.number(0, 5));
                    default -> new Act("day", text.number(1, 30), 0, 0);
                });
                text.sign(";");
            }
            text.close();
        } catch (Fault f) {
            fault = f.kind;
            return -2 - f.place;
        }
        fault = 0;
        State s = st.copy();
        int right = 0;
        int why = 0;
        while (right < acts.size()) {
            why = act(s, acts.get(right));
            if (why != 0) {
                break;
            }
            right++;
        }
        told = new int[] {why, right, s.day, bits(reading(s, 1, 2))};
        if (lives == 1) {
            remember(st);
            st = s;
        }
        return why == 0 ? NONE : right;
    }

    int told(int what) {
        return told == null || what < 0 || what > 3 ? NONE : told[what];
    }

    int sentence() {
        Text text = new Text(takeTape(), 200);
        ones = 0;
        try {
            Cond c = cond(text, 1);
            text.close();
            spoken = c;
        } catch (Fault f) {
            fault = f.kind;
            return -1 - f.place;
        }
        fault = 0;
        return ones;
    }

    private Cond cond(Text text, int depth) {
        Cond left = all(text, depth);
        while (text.peek().is("or")) {
            text.take();
            Cond a = left;
            Cond b = all(text, depth);
            left = k -> a.of(k) || b.of(k);
        }
        return left;
    }

    private Cond all(Text text, int depth) {
        Cond left = one(text, depth);
        while (text.peek().is("and")) {
            text.take();
            Cond a = left;
            Cond b = one(text, depth);
            left = k -> a.of(k) && b.of(k);
        }
        return left;
    }

    private Cond one(Text text, int depth) {
        Token t = text.take();
        if (!Set.of("not", "(", "doubt", "lawful", "dogma", "rare", "asked", "follows", "dust", "bonds", "number")
            .contains(t.text)) {
            throw new Fault(1, t.place);
        }
        ones++;
        if (ones > 20 || depth > 8) {
            throw new Fault(4, t.place);
        }
        switch (t.text) {
            case "not": {
                Cond inner = one(text, depth + 1);
                return k -> !inner.of(k);
            }
            case "(": {
                Cond inner = cond(text, depth + 1);
                text.sign(")");
                return inner;
            }
            case "doubt": return k -> reads(st.webs.get(k)) == 0;
            case "lawful": return k -> reads(st.webs.get(k)) == 1;
            case "dogma": return k -> reads(st.webs.get(k)) == 2;
            case "rare": return k -> lib.rare.contains(k);
            case "asked": return k -> st.today.contains(k);
            case "follows": {
                int b = lib.told(text);
                return k -> following(st, b).contains(k);
            }
            default: return measured(text, t.text);
        }
    }

    private Cond measured(Text text, String what) {
        Token sign = text.take();
        if (!Set.of("<", "=", ">").contains(sign.text)) {
            throw new Fault(1, sign.place);
        }
        int n = text.number(0, 999);
        return k -> {
            int m = what.equals("dust") ? st.webs.get(k) : what.equals("bonds") ? lines(st, k).size() : k;
            return sign.is("<") ? m < n : sign.is(">") ? m > n : m == n;
        };
    }

    int said(int k) {
        if (spoken == null) {
            return NONE;
        }
        List<Integer> books = new ArrayList<>();
        for (int b = 0; b < lib.size(); b++) {
            if (spoken.of(b)) {
                books.add(b);
            }
        }
        return k == NONE ? books.size() : pick(books, k);
    }

    boolean image(int k) {
        if (k != 0 && k != 1) {
            return false;
        }
        images.put(k, new Object[] {lib, st.copy(), spoken});
        return true;
    }

    boolean restore(int k) {
        Object[] kept = images.get(k);
        if (kept == null) {
            return false;
        }
        lib = (Lib) kept[0];
        st = ((State) kept[1]).copy();
        spoken = (Cond) kept[2];
        past.clear();
        return true;
    }

    int count(int what) {
        return switch (what) {
            case 0 -> lib.size();
            case 1 -> lib.wide;
            case 2 -> lib.high;
            case 3 -> lib.law;
            case 4 -> lib.spin;
            case 5 -> lib.line;
            case 6 -> lib.draught;
            case 7 -> tape.length;
            default -> NONE;
        };
    }
}
