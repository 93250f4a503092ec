import java.util.NoSuchElementException;

/** A library whose books are read by the webs on them; every call keeps a numbered promise of DOC.md. */
public final class CobwebLibrary {
    public static final int NONE = -1;

    private static final int TAPE_MOST = 940;
    private static final int FEED_BYTES = 20;
    private static final int LIBRARY_MOST = 900;
    private static final int LIFE_MOST = 400;
    private static final int SENTENCE_MOST = 200;

    private static final int BOOKS_MOST = 8;
    private static final int PAIRS_ROOM = 64;
    private static final int RARE_MOST = 3;
    private static final int NAME_MOST = 7;
    private static final int DIGITS_MOST = 3;
    private static final int NUMBER_MOST = 999;
    private static final int SIDE_LEAST = 2;
    private static final int SIDE_MOST = 6;
    private static final int CELLS_MOST = 36;
    private static final int THICK_MOST = 99;
    private static final int LAW_MOST = 50;
    private static final int SPIN_MOST = 5;
    private static final int LINE_MOST = 50;
    private static final int DRAUGHT_MOST = 12;
    private static final int DAYS_ALL = 400;
    private static final int DAYS_MOST = 30;
    private static final int SEEDS_MOST = 30;
    private static final int ODDS_DAYS = 30;
    private static final int KEEP_MOST = 8;
    private static final int AHEAD_MOST = 3;
    private static final int PAIRS_TOLD_MOST = 8;
    private static final int TRIPLES_TOLD_MOST = 6;
    private static final int ACTS_KEPT = 8;
    private static final int IMAGES = 2;
    private static final int LIFE_LINES_MOST = 40;
    private static final int ONES_MOST = 20;
    private static final int WITHIN_MOST = 8;
    private static final int SENTENCE_ROOM = 40;
    private static final int CARD_MOST = 32;

    private static final int LIFE_REFUSED = -1000;
    private static final int WHY_SWEEPING = 10;
    private static final int WHY_MOVING = 20;
    private static final int WHY_NO_ROW = 19;
    private static final int WHY_NO_CELL = 29;
    private static final int WHY_NO_DAYS = 31;

    private static final int FAULT_TOKEN = 1;
    private static final int FAULT_NUMBER = 2;
    private static final int FAULT_TOLD = 3;
    private static final int FAULT_MANY = 4;

    /** A sign's kind of token is its own byte, so that these stay below all signs. */
    private static final int TOKEN_BAD = -1;
    private static final int TOKEN_END = 0;
    private static final int TOKEN_WORD = 1;
    private static final int TOKEN_NUMBER = 2;

    private static final int WORD_COLUMNS = 8;
    /** All words that can be no names, each in eight columns with a blank at the end; they are numbered from 1. */
    private static final String WORDS = "shelves book    rare    web     thread  quarrel law     spin    line    draught ask     broom   move    day     or      and     not     doubt   lawful  dogma   asked   follows dust    bonds   number  ";
    private static final int NO_WORD = 0;
    private static final int SHELVES = 1;
    private static final int BOOK = 2;
    private static final int RARE = 3;
    private static final int WEB = 4;
    private static final int THREAD = 5;
    private static final int QUARREL = 6;
    private static final int LAW = 7;
    private static final int SPIN = 8;
    private static final int LINE = 9;
    private static final int DRAUGHT = 10;
    private static final int ASK = 11;
    private static final int BROOM = 12;
    private static final int MOVE = 13;
    private static final int DAY = 14;
    private static final int OR = 15;
    private static final int AND = 16;
    private static final int NOT = 17;
    private static final int DOUBT = 18;
    private static final int LAWFUL = 19;
    private static final int DOGMA = 20;
    private static final int ASKED = 21;
    private static final int FOLLOWS = 22;
    private static final int DUST = 23;
    private static final int BONDS = 24;
    private static final int NUMBER = 25;

    private final Tape tape = new Tape();
    private final Plan plan = new Plan();
    private final Shelves shelves = new Shelves();
    private final Shelves trial = new Shelves();
    private final Founding founding = new Founding();
    private final Life lived = new Life();
    private final Sentence spoken = new Sentence();
    private final Sentence draft = new Sentence();
    private final Past past = new Past();
    private final Image[] images = new Image[IMAGES];
    private final Foresight foresight = new Foresight();
    private final Paths paths = new Paths();
    private final int[] card = new int[CARD_MOST];
    private int cardSize = 0;
    private int faultKind = 0;

    public CobwebLibrary() {
        for (int k = 0; k < IMAGES; k++) {
            images[k] = new Image();
        }
    }

    // ---- the tape and the texts

    public int feed(int a, int b, int c, int d, int e) {
        if (tape.length > TAPE_MOST - FEED_BYTES) {
            return NONE;
        }
        tape.addNumber(a);
        tape.addNumber(b);
        tape.addNumber(c);
        tape.addNumber(d);
        tape.addNumber(e);
        return tape.length;
    }

    public boolean end(int n) {
        if (n < 0 || n > tape.length) {
            return false;
        }
        tape.length = n;
        return true;
    }

    public int library() {
        int lines = founding.readFrom(tape);
        tape.length = 0;
        faultKind = tape.faultKind;
        if (faultKind != 0) {
            return -1 - tape.faultPlace;
        }
        plan.copyFrom(founding.plan);
        shelves.copyFrom(founding.shelves);
        spoken.forget();
        past.forget();
        return lines;
    }

    public int fault() {
        return faultKind;
    }

    public int sentence() {
        draft.readFrom(tape, plan);
        tape.length = 0;
        faultKind = tape.faultKind;
        if (faultKind != 0) {
            return -1 - tape.faultPlace;
        }
        spoken.copyFrom(draft);
        return spoken.ones;
    }

    public int said(int k) {
        if (!spoken.isTold) {
            return NONE;
        }
        int books = spoken.booksSaid(plan, shelves);
        if (k == NONE) {
            return sizeOf(books);
        }
        return bookOf(books, k);
    }

    public int life(int lives) {
        if (lives != 0 && lives != 1) {
            return LIFE_REFUSED;
        }
        lived.readFrom(tape, plan);
        tape.length = 0;
        faultKind = tape.faultKind;
        if (faultKind != 0) {
            return -2 - tape.faultPlace;
        }
        trial.copyFrom(shelves);
        lived.goThrough(plan, trial);
        if (lives == 1) {
            takeTrial();
        }
        return lived.why == 0 ? NONE : lived.right;
    }

    public int told(int what) {
        if (!lived.isTold) {
            return NONE;
        }
        switch (what) {
            case 0: return lived.why;
            case 1: return lived.right;
            case 2: return lived.dayThen;
            case 3: return lived.lawsThen;
            default: return NONE;
        }
    }

    // ---- what is so

    public int book(int b, int what) throws NoSuchElementException {
        if (!plan.hasBook(b) || what < 0 || what > 7) {
            throw new NoSuchElementException();
        }
        switch (what) {
            case 0: return shelves.x[b];
            case 1: return shelves.y[b];
            case 2: return shelves.web[b];
            case 3: return plan.reading(shelves.web[b]);
            case 4: return bitOf(plan.rare, b);
            case 5: return bitOf(shelves.today, b);
            case 6: return shelves.asks[b];
            default: return shelves.linesOf(plan, b);
        }
    }

    public int thread(int a, int b) {
        if (a == b || !plan.hasBook(a) || !plan.hasBook(b)) {
            return NONE;
        }
        return shelves.threads[pairPlace(a, b)];
    }

    public int sight(int b) {
        return plan.hasBook(b) ? shelves.seenFrom(plan.books, b) : NONE;
    }

    public int at(int x, int y) {
        return shelves.bookIn(plan.books, x, y);
    }

    public int now(int what) {
        switch (what) {
            case 0: return shelves.day;
            case 1: return shelves.booksReading(plan, 1);
            case 2: return shelves.booksReading(plan, 2);
            case 3: return shelves.today;
            case 4: return sumOf(shelves.web);
            case 5: return sumOf(shelves.threads) / 2;
            case 6: return sumOf(shelves.asks);
            default: return NONE;
        }
    }

    public int count(int what) {
        switch (what) {
            case 0: return plan.books;
            case 1: return plan.wide;
            case 2: return plan.high;
            case 3: return plan.law;
            case 4: return plan.spin;
            case 5: return plan.line;
            case 6: return plan.draught;
            case 7: return tape.length;
            default: return NONE;
        }
    }

    public int quarrels() {
        int pairs = 0;
        for (int a = 0; a < plan.books; a++) {
            pairs += sizeOf(quarrelsAbove(a));
        }
        return pairs;
    }

    public int quarrel(int what) throws NoSuchElementException {
        int lesser = 0;
        while (lesser < plan.books && quarrelsAbove(lesser) == 0) {
            lesser++;
        }
        if (lesser >= plan.books || (what != 0 && what != 1)) {
            throw new NoSuchElementException();
        }
        return what == 0 ? lesser : bookOf(quarrelsAbove(lesser), 0);
    }

    public int catalogue(int b) {
        if (!plan.hasBook(b)) {
            return NONE;
        }
        cardSize = 0;
        for (int k = 0; k < plan.nameSizes[b]; k++) {
            putByte(plan.names[b * NAME_MOST + k]);
        }
        int reading = plan.reading(shelves.web[b]);
        putText(reading == 0 ? " is in doubt" : reading == 1 ? " is law" : " is dogma");
        putText(" by ");
        if (shelves.web[b] >= 10) {
            putByte('0' + shelves.web[b] / 10);
        }
        putByte('0' + shelves.web[b] % 10);
        return cardSize;
    }

    public int byteAt(int i) {
        return i >= 0 && i < cardSize ? card[i] : NONE;
    }

    // ---- what is done

    public int ask(int b) {
        if (!plan.hasBook(b)) {
            return NONE;
        }
        trial.copyFrom(shelves);
        return takeIfDone(trial.askFor(b));
    }

    public int broom(int y) {
        if (!plan.hasRow(y)) {
            return NONE;
        }
        trial.copyFrom(shelves);
        return takeIfDone(trial.sweepRow(plan.books, y));
    }

    public int move(int b, int x, int y) {
        if (!plan.hasBook(b) || !plan.hasCell(x, y)) {
            return NONE;
        }
        trial.copyFrom(shelves);
        return takeIfDone(trial.carry(plan.books, b, x, y));
    }

    public int days(int n, int seed) {
        if (n < 1 || n > DAYS_MOST) {
            return NONE;
        }
        trial.copyFrom(shelves);
        int gone = trial.passDays(plan, n, seed);
        if (gone > 0) {
            takeTrial();
        }
        return gone;
    }

    public int undo() {
        return past.giveBack(shelves) ? past.size : NONE;
    }

    public boolean image(int k) {
        if (k < 0 || k >= images.length || images[k] == null) {
            return false;
        }
        images[k].keepAll(plan, shelves, spoken);
        return true;
    }

    public boolean restore(int k) {
        if (k < 0 || k >= images.length || images[k] == null || !images[k].isKept) {
            return false;
        }
        images[k].giveAll(plan, shelves, spoken);
        past.forget();
        return true;
    }

    // ---- what will be, what was, what would be

    public int when(int b) {
        if (!plan.hasBook(b)) {
            return NONE;
        }
        int lacking = plan.law - shelves.web[b];
        if (lacking <= 0) {
            return 0;
        }
        int spin = Math.max(1, plan.spin);
        int gone = (lacking + spin - 1) / spin + bitOf(shelves.today, b);
        return shelves.hasDays(gone) ? gone : NONE;
    }

    public int follow(int b) {
        return plan.hasBook(b) ? shelves.following(plan, b) : NONE;
    }

    public int way(int a, int b) {
        if (!plan.hasBook(a) || !plan.hasBook(b)) {
            return NONE;
        }
        return paths.findWay(plan, shelves, a, b);
    }

    public int wayAt(int k) {
        return k >= 0 && k < paths.waySize ? paths.way[k] : NONE;
    }

    public int keep(int n) {
        if (n < 1 || n > KEEP_MOST || !shelves.hasDays(n)) {
            return NONE;
        }
        foresight.look(plan, shelves, n);
        return foresight.fewestAskings();
    }

    public int keepAt(int k) {
        return k >= 0 && k < foresight.keepSize ? foresight.keepRow[k] : NONE;
    }

    public int asked(int n) {
        boolean asTold = foresight.takeWanted(tape, plan.books);
        tape.length = 0;
        if (!asTold || n < 1 || n > AHEAD_MOST || !shelves.hasDays(n)) {
            return NONE;
        }
        foresight.look(plan, shelves, n);
        return foresight.countRows();
    }

    public int askedAt(int k) {
        return k >= 0 && k < foresight.askedSize ? foresight.askedRow[k] : NONE;
    }

    public int spun() {
        int triples = tape.length / 3;
        boolean asTold = triples >= 1 && triples <= TRIPLES_TOLD_MOST && triples * 3 == tape.length;
        int spins = asTold ? foresight.spinsOf(tape, triples) : NONE;
        tape.length = 0;
        return spins;
    }

    public int torn(int b) {
        return plan.hasBook(b) ? paths.findTorn(plan, shelves, b) : NONE;
    }

    public int steps() {
        return paths.tornSteps;
    }

    public int turns(int n) {
        if (n < 1 || n > AHEAD_MOST || !shelves.hasDays(n)) {
            return NONE;
        }
        foresight.look(plan, shelves, n);
        return foresight.playTurns();
    }

    public int turn() {
        return foresight.firstTurn;
    }

    public int odds(int b, int n, int seed) {
        if (!plan.hasBook(b) || n < 1 || n > SEEDS_MOST) {
            return NONE;
        }
        int laws = 0;
        for (int k = 0; k < n; k++) {
            if (plan.reading(shelves.webLater(plan, b, seed + k)) > 0) {
                laws++;
            }
        }
        return laws;
    }

    // ---- helpers of the calls

    private int takeIfDone(int why) {
        if (why == 0) {
            takeTrial();
        }
        return why;
    }

    private void takeTrial() {
        past.keepOne(shelves);
        shelves.copyFrom(trial);
    }

    /** The books behind a that quarrel with it, if it and they are law or dogma. */
    private int quarrelsAbove(int a) {
        int laws = shelves.booksLawful(plan);
        if (bitOf(laws, a) == 0) {
            return 0;
        }
        return plan.quarrels[a] & laws & ~((2 << a) - 1);
    }

    private void putText(String text) {
        for (int k = 0; k < text.length(); k++) {
            putByte(text.charAt(k));
        }
    }

    private void putByte(int value) {
        if (cardSize < card.length) {
            card[cardSize] = value;
            cardSize++;
        }
    }

    private static int bitOf(int bits, int b) {
        return (bits >> b) & 1;
    }

    private static int sizeOf(int bits) {
        return Integer.bitCount(bits);
    }

    /** The k-th book (from 0) of those told by bits. */
    private static int bookOf(int bits, int k) {
        int ahead = 0;
        for (int b = 0; b < BOOKS_MOST; b++) {
            if (bitOf(bits, b) == 1) {
                if (ahead == k) {
                    return b;
                }
                ahead++;
            }
        }
        return NONE;
    }

    private static int sumOf(int[] row) {
        int sum = 0;
        for (int k = 0; k < row.length; k++) {
            sum += row[k];
        }
        return sum;
    }

    private static int pairPlace(int a, int b) {
        return a * BOOKS_MOST + b;
    }

    private static int seedBehind(int seed) {
        return seed * 1103515245 + 12345;
    }

    private static int drawnOf(int seed, int n) {
        return n > 0 ? (seed >>> 8) % n : 0;
    }

    private static boolean isBetween(int middle, int a, int b) {
        return (a < middle && middle < b) || (b < middle && middle < a);
    }

    /** The bytes that were fed, and the token of their text that is looked at. */
    private static final class Tape {
        final int[] bytes = new int[TAPE_MOST];
        int length = 0;
        int kind = TOKEN_END;
        int place = 0;
        int size = 0;
        int value = 0;
        int word = NO_WORD;
        int faultKind = 0;
        int faultPlace = 0;
        private int limit = 0;
        private int next = 0;

        void addNumber(int number) {
            for (int shift = 24; shift >= 0; shift -= 8) {
                if (length < bytes.length) {
                    bytes[length] = (number >>> shift) & 255;
                    length++;
                }
            }
        }

        void open(int most) {
            limit = Math.min(length, most);
            next = 0;
            faultKind = 0;
            faultPlace = 0;
            advance();
        }

        /** Tokens begin ahead of the limit alone, but are read whole beyond it. */
        void advance() {
            while (next < limit && isBlank(bytes[next])) {
                next++;
            }
            word = NO_WORD;
            value = 0;
            size = 0;
            if (next >= limit) {
                place = limit;
                kind = TOKEN_END;
                return;
            }
            place = next;
            if (isLetter(bytes[next]) || isDigit(bytes[next])) {
                readRun();
                return;
            }
            kind = isSign(bytes[next]) ? bytes[next] : TOKEN_BAD;
            next++;
        }

        private void readRun() {
            int letters = 0;
            while (next < length && (isLetter(bytes[next]) || isDigit(bytes[next]))) {
                if (isLetter(bytes[next])) {
                    letters++;
                } else {
                    value = value * 10 + bytes[next] - '0';
                }
                next++;
            }
            size = next - place;
            kind = TOKEN_BAD;
            if (letters == 0 && size <= DIGITS_MOST) {
                kind = TOKEN_NUMBER;
            } else if (letters == size && size <= NAME_MOST) {
                kind = TOKEN_WORD;
                word = wordNumber();
            }
        }

        private int wordNumber() {
            for (int from = 0; from + WORD_COLUMNS <= WORDS.length(); from += WORD_COLUMNS) {
                int like = 0;
                while (like < size && WORDS.charAt(from + like) == bytes[place + like]) {
                    like++;
                }
                if (like == size && WORDS.charAt(from + like) == ' ') {
                    return from / WORD_COLUMNS + 1;
                }
            }
            return NO_WORD;
        }

        boolean fail(int faultNumber) {
            faultKind = faultNumber;
            faultPlace = place;
            return false;
        }

        boolean isName() {
            return kind == TOKEN_WORD && word == NO_WORD;
        }

        boolean hasNumber(int least, int most) {
            if (kind != TOKEN_NUMBER) {
                return fail(FAULT_TOKEN);
            }
            return (value >= least && value <= most) || fail(FAULT_NUMBER);
        }

        boolean passSign(int sign) {
            if (kind != sign) {
                return fail(FAULT_TOKEN);
            }
            advance();
            return true;
        }

        /** A text longer than its kind may be ends with a fault, whatever is behind. */
        boolean closes() {
            return (kind == TOKEN_END && length <= limit) || fail(FAULT_TOKEN);
        }

        private static boolean isBlank(int value) {
            return value == 32 || value == 10;
        }

        private static boolean isLetter(int value) {
            return value >= 'a' && value <= 'z';
        }

        private static boolean isDigit(int value) {
            return value >= '0' && value <= '9';
        }

        private static boolean isSign(int value) {
            return value == ';' || value == '(' || value == ')' || (value >= '<' && value <= '>');
        }
    }

    /** What a library's text tells that no day changes. */
    private static final class Plan {
        int wide = 4;
        int high = 4;
        int law = 10;
        int spin = 1;
        int line = 3;
        int draught = 0;
        int books = 0;
        int rare = 0;
        final int[] quarrels = new int[BOOKS_MOST];
        final int[] nameSizes = new int[BOOKS_MOST];
        final int[] names = new int[BOOKS_MOST * NAME_MOST];

        void empty() {
            wide = 4;
            high = 4;
            law = 10;
            spin = 1;
            line = 3;
            draught = 0;
            books = 0;
            rare = 0;
            for (int b = 0; b < BOOKS_MOST; b++) {
                quarrels[b] = 0;
                nameSizes[b] = 0;
            }
        }

        void copyFrom(Plan other) {
            wide = other.wide;
            high = other.high;
            law = other.law;
            spin = other.spin;
            line = other.line;
            draught = other.draught;
            books = other.books;
            rare = other.rare;
            System.arraycopy(other.quarrels, 0, quarrels, 0, BOOKS_MOST);
            System.arraycopy(other.nameSizes, 0, nameSizes, 0, BOOKS_MOST);
            System.arraycopy(other.names, 0, names, 0, BOOKS_MOST * NAME_MOST);
        }

        boolean hasBook(int b) {
            return b >= 0 && b < books;
        }

        boolean hasRow(int row) {
            return row >= 0 && row < high;
        }

        boolean hasCell(int cellX, int cellY) {
            return cellX >= 0 && cellX < wide && hasRow(cellY);
        }

        int reading(int web) {
            if (web < law) {
                return 0;
            }
            return web < 2 * law ? 1 : 2;
        }

        void setNumber(int word, int value) {
            switch (word) {
                case LAW: law = value; break;
                case SPIN: spin = value; break;
                case LINE: line = value; break;
                default: draught = value; break;
            }
        }

        /** The name is kept behind those of all books; it counts when the book does. */
        void noteName(Tape tape) {
            if (books >= BOOKS_MOST) {
                return;
            }
            nameSizes[books] = Math.min(tape.size, NAME_MOST);
            for (int k = 0; k < nameSizes[books]; k++) {
                names[books * NAME_MOST + k] = tape.bytes[tape.place + k];
            }
        }

        int bookNamed(Tape tape) {
            for (int b = 0; b < books; b++) {
                if (isNamed(tape, b)) {
                    return b;
                }
            }
            return NONE;
        }

        private boolean isNamed(Tape tape, int b) {
            if (nameSizes[b] != tape.size) {
                return false;
            }
            for (int k = 0; k < nameSizes[b]; k++) {
                if (names[b * NAME_MOST + k] != tape.bytes[tape.place + k]) {
                    return false;
                }
            }
            return true;
        }

        /** The book that the tape's token names; NONE with a fault on the tape. */
        int bookTold(Tape tape) {
            if (!tape.isName()) {
                tape.fail(FAULT_TOKEN);
                return NONE;
            }
            int b = bookNamed(tape);
            if (b == NONE) {
                tape.fail(FAULT_TOLD);
            }
            return b;
        }
    }

    /** What days and acts change: where the books are, their webs, threads and askings. */
    private static final class Shelves {
        final int[] x = new int[BOOKS_MOST];
        final int[] y = new int[BOOKS_MOST];
        final int[] web = new int[BOOKS_MOST];
        final int[] asks = new int[BOOKS_MOST];
        /** Each thread stands twice, so that both books find it in their row. */
        final int[] threads = new int[PAIRS_ROOM];
        int today = 0;
        int day = 0;
        private final int[] seen = new int[BOOKS_MOST];

        void empty() {
            today = 0;
            day = 0;
            for (int b = 0; b < BOOKS_MOST; b++) {
                x[b] = 0;
                y[b] = 0;
                web[b] = 0;
                asks[b] = 0;
            }
            for (int k = 0; k < PAIRS_ROOM; k++) {
                threads[k] = 0;
            }
        }

        void copyFrom(Shelves other) {
            today = other.today;
            day = other.day;
            System.arraycopy(other.x, 0, x, 0, BOOKS_MOST);
            System.arraycopy(other.y, 0, y, 0, BOOKS_MOST);
            System.arraycopy(other.web, 0, web, 0, BOOKS_MOST);
            System.arraycopy(other.asks, 0, asks, 0, BOOKS_MOST);
            System.arraycopy(other.threads, 0, threads, 0, PAIRS_ROOM);
        }

        boolean hasDays(int n) {
            return n <= DAYS_ALL - day;
        }

        int bookIn(int books, int cellX, int cellY) {
            for (int b = 0; b < books; b++) {
                if (x[b] == cellX && y[b] == cellY) {
                    return b;
                }
            }
            return NONE;
        }

        int seenFrom(int books, int a) {
            int bits = 0;
            for (int b = 0; b < books; b++) {
                if (a != b && isInSight(books, a, b)) {
                    bits |= 1 << b;
                }
            }
            return bits;
        }

        private boolean isInSight(int books, int a, int b) {
            if (x[a] != x[b] && y[a] != y[b]) {
                return false;
            }
            for (int c = 0; c < books; c++) {
                if (c != a && c != b && standsBetween(c, a, b)) {
                    return false;
                }
            }
            return true;
        }

        private boolean standsBetween(int c, int a, int b) {
            if (y[a] == y[b]) {
                return y[c] == y[a] && isBetween(x[c], x[a], x[b]);
            }
            return x[c] == x[a] && isBetween(y[c], y[a], y[b]);
        }

        int booksReading(Plan plan, int reading) {
            int bits = 0;
            for (int b = 0; b < plan.books; b++) {
                if (plan.reading(web[b]) == reading) {
                    bits |= 1 << b;
                }
            }
            return bits;
        }

        int booksLawful(Plan plan) {
            return booksReading(plan, 1) | booksReading(plan, 2);
        }

        int linesOf(Plan plan, int a) {
            int bits = 0;
            for (int b = 0; b < plan.books; b++) {
                if (b != a && threads[pairPlace(a, b)] >= plan.line) {
                    bits |= 1 << b;
                }
            }
            return bits;
        }

        int following(Plan plan, int from) {
            int bits = 1 << from;
            for (int round = 0; round < BOOKS_MOST; round++) {
                int ahead = bits;
                for (int b = 0; b < plan.books; b++) {
                    if (bitOf(ahead, b) == 1) {
                        bits |= linesOf(plan, b);
                    }
                }
                if (bits == ahead) {
                    break;
                }
            }
            return bits;
        }

        void setThread(int a, int b, int thickness) {
            threads[pairPlace(a, b)] = thickness;
            threads[pairPlace(b, a)] = thickness;
        }

        private boolean hasThread(int a) {
            for (int b = 0; b < BOOKS_MOST; b++) {
                if (threads[pairPlace(a, b)] > 0) {
                    return true;
                }
            }
            return false;
        }

        private void cutThreads(int a) {
            for (int b = 0; b < BOOKS_MOST; b++) {
                threads[pairPlace(a, b)] = 0;
                threads[pairPlace(b, a)] = 0;
            }
        }

        int askFor(int b) {
            if (bitOf(today, b) == 1) {
                return 1;
            }
            web[b] = 0;
            cutThreads(b);
            today |= 1 << b;
            asks[b]++;
            return 0;
        }

        int sweepRow(int books, int row) {
            boolean isSwept = false;
            for (int b = 0; b < books; b++) {
                if (y[b] == row && (web[b] > 0 || hasThread(b))) {
                    web[b] = 0;
                    cutThreads(b);
                    isSwept = true;
                }
            }
            return isSwept ? 0 : 1;
        }

        int carry(int books, int b, int cellX, int cellY) {
            if (bookIn(books, cellX, cellY) != NONE) {
                return 1;
            }
            x[b] = cellX;
            y[b] = cellY;
            cutThreads(b);
            return 0;
        }

        /** Lets n days go, or as many as are left: how many. */
        int passDays(Plan plan, int n, int seed) {
            int gone = Math.min(n, DAYS_ALL - day);
            for (int b = 0; b < plan.books; b++) {
                seen[b] = seenFrom(plan.books, b);
            }
            int drawn = seed;
            for (int k = 0; k < gone; k++) {
                growWebs(plan);
                growThreads(plan.books);
                drawn = blow(plan, drawn);
                day++;
                today = 0;
            }
            return gone;
        }

        private void growWebs(Plan plan) {
            for (int b = 0; b < plan.books; b++) {
                if (bitOf(today, b) == 0) {
                    web[b] = Math.min(THICK_MOST, web[b] + plan.spin);
                }
            }
        }

        private void growThreads(int books) {
            for (int a = 0; a < books; a++) {
                int others = bitOf(today, a) == 1 ? 0 : seen[a] & ~today;
                for (int b = a + 1; b < books; b++) {
                    if (bitOf(others, b) == 1) {
                        setThread(a, b, Math.min(THICK_MOST, threads[pairPlace(a, b)] + 1));
                    }
                }
            }
        }

        private int blow(Plan plan, int seed) {
            int drawn = seedBehind(seed);
            if (plan.books == 0 || drawnOf(drawn, DRAUGHT_MOST) >= plan.draught) {
                return drawn;
            }
            drawn = seedBehind(drawn);
            int b = drawnOf(drawn, plan.books);
            web[b] = web[b] / 2;
            cutThreads(b);
            return drawn;
        }

        /** One book's web behind the days of odds(); threads and other webs do not touch it. */
        int webLater(Plan plan, int b, int seed) {
            int later = web[b];
            int drawn = seed;
            int gone = Math.min(ODDS_DAYS, DAYS_ALL - day);
            for (int k = 0; k < gone; k++) {
                if (k > 0 || bitOf(today, b) == 0) {
                    later = Math.min(THICK_MOST, later + plan.spin);
                }
                drawn = seedBehind(drawn);
                if (drawnOf(drawn, DRAUGHT_MOST) < plan.draught) {
                    drawn = seedBehind(drawn);
                    later = drawnOf(drawn, plan.books) == b ? later / 2 : later;
                }
            }
            return later;
        }
    }

    /** Reads a library's text into a plan and shelves of its own, so that a fault leaves the others alone. */
    private static final class Founding {
        final Plan plan = new Plan();
        final Shelves shelves = new Shelves();
        private final int[] threadsTold = new int[BOOKS_MOST];
        private int websTold = 0;
        private int wordsTold = 0;
        private int first = 0;
        private int second = 0;

        /** How many lines; a fault stands on the tape. */
        int readFrom(Tape tape) {
            plan.empty();
            shelves.empty();
            websTold = 0;
            wordsTold = 0;
            for (int b = 0; b < BOOKS_MOST; b++) {
                threadsTold[b] = 0;
            }
            tape.open(LIBRARY_MOST);
            int lines = 0;
            while (lines < LIBRARY_MOST && tape.kind != TOKEN_END) {
                if (!readLine(tape) || !tape.passSign(';')) {
                    return NONE;
                }
                lines++;
            }
            return tape.closes() ? lines : NONE;
        }

        private boolean readLine(Tape tape) {
            switch (tape.word) {
                case SHELVES: return readShelves(tape);
                case BOOK: return readBook(tape);
                case WEB: return readWeb(tape);
                case THREAD: return readPair(tape, threadsTold) && readThickness(tape);
                case QUARREL: return readPair(tape, plan.quarrels);
                case LAW: return readNumber(tape, 1, LAW_MOST);
                case SPIN: return readNumber(tape, 1, SPIN_MOST);
                case LINE: return readNumber(tape, 1, LINE_MOST);
                case DRAUGHT: return readNumber(tape, 0, DRAUGHT_MOST);
                default: return tape.fail(FAULT_TOKEN);
            }
        }

        private boolean isToldFirst(Tape tape) {
            if (bitOf(wordsTold, tape.word) == 1) {
                return tape.fail(FAULT_TOLD);
            }
            wordsTold |= 1 << tape.word;
            return true;
        }

        private boolean readNumber(Tape tape, int least, int most) {
            int word = tape.word;
            if (!isToldFirst(tape)) {
                return false;
            }
            tape.advance();
            if (!tape.hasNumber(least, most)) {
                return false;
            }
            plan.setNumber(word, tape.value);
            tape.advance();
            return true;
        }

        private boolean readShelves(Tape tape) {
            if (plan.books > 0) {
                return tape.fail(FAULT_TOLD);
            }
            if (!isToldFirst(tape)) {
                return false;
            }
            tape.advance();
            if (!tape.hasNumber(SIDE_LEAST, SIDE_MOST)) {
                return false;
            }
            plan.wide = tape.value;
            tape.advance();
            if (!tape.hasNumber(SIDE_LEAST, SIDE_MOST)) {
                return false;
            }
            plan.high = tape.value;
            tape.advance();
            return true;
        }

        private boolean readBook(Tape tape) {
            int b = plan.books;
            if (b >= BOOKS_MOST) {
                return tape.fail(FAULT_MANY);
            }
            tape.advance();
            if (!tape.isName()) {
                return tape.fail(FAULT_TOKEN);
            }
            if (plan.bookNamed(tape) != NONE) {
                return tape.fail(FAULT_TOLD);
            }
            plan.noteName(tape);
            tape.advance();
            if (!readCell(tape, b)) {
                return false;
            }
            if (tape.word == RARE) {
                if (sizeOf(plan.rare) >= RARE_MOST) {
                    return tape.fail(FAULT_MANY);
                }
                plan.rare |= 1 << b;
                tape.advance();
            }
            plan.books = b + 1;
            return true;
        }

        private boolean readCell(Tape tape, int b) {
            if (!tape.hasNumber(0, plan.wide - 1)) {
                return false;
            }
            shelves.x[b] = tape.value;
            tape.advance();
            if (!tape.hasNumber(0, plan.high - 1)) {
                return false;
            }
            shelves.y[b] = tape.value;
            if (shelves.bookIn(plan.books, shelves.x[b], shelves.y[b]) != NONE) {
                return tape.fail(FAULT_TOLD);
            }
            tape.advance();
            return true;
        }

        private boolean readWeb(Tape tape) {
            tape.advance();
            int b = plan.bookTold(tape);
            if (b == NONE) {
                return false;
            }
            if (bitOf(websTold, b) == 1) {
                return tape.fail(FAULT_TOLD);
            }
            websTold |= 1 << b;
            tape.advance();
            if (!tape.hasNumber(1, THICK_MOST)) {
                return false;
            }
            shelves.web[b] = tape.value;
            tape.advance();
            return true;
        }

        private boolean readThickness(Tape tape) {
            if (!tape.hasNumber(1, THICK_MOST)) {
                return false;
            }
            shelves.setThread(first, second, tape.value);
            tape.advance();
            return true;
        }

        /** Two unlike books that toldWith does not hold together yet: it does then. */
        private boolean readPair(Tape tape, int[] toldWith) {
            tape.advance();
            first = plan.bookTold(tape);
            if (first == NONE) {
                return false;
            }
            tape.advance();
            second = plan.bookTold(tape);
            if (second == NONE) {
                return false;
            }
            if (first == second || bitOf(toldWith[first], second) == 1) {
                return tape.fail(FAULT_TOLD);
            }
            toldWith[first] |= 1 << second;
            toldWith[second] |= 1 << first;
            tape.advance();
            return true;
        }
    }

    /** A life's lines, and how far they went when they were last gone through. */
    private static final class Life {
        boolean isTold = false;
        int why = 0;
        int right = 0;
        int dayThen = 0;
        int lawsThen = 0;
        private int size = 0;
        private final int[] acts = new int[LIFE_LINES_MOST];
        private final int[] targets = new int[LIFE_LINES_MOST];
        private final int[] cellsX = new int[LIFE_LINES_MOST];
        private final int[] cellsY = new int[LIFE_LINES_MOST];

        /** A fault stands on the tape then. */
        void readFrom(Tape tape, Plan plan) {
            size = 0;
            tape.open(LIFE_MOST);
            boolean isFine = true;
            for (int k = 0; k <= LIFE_LINES_MOST && isFine && tape.kind != TOKEN_END; k++) {
                isFine = readLine(tape, plan) && tape.passSign(';');
            }
            if (isFine) {
                tape.closes();
            }
        }

        private boolean readLine(Tape tape, Plan plan) {
            int act = tape.word;
            if (act < ASK || act > DAY) {
                return tape.fail(FAULT_TOKEN);
            }
            if (size >= LIFE_LINES_MOST) {
                return tape.fail(FAULT_MANY);
            }
            acts[size] = act;
            tape.advance();
            if (!readTarget(tape, plan, act)) {
                return false;
            }
            tape.advance();
            if (act == MOVE && !readCell(tape)) {
                return false;
            }
            size++;
            return true;
        }

        private boolean readTarget(Tape tape, Plan plan, int act) {
            if (act == ASK || act == MOVE) {
                targets[size] = plan.bookTold(tape);
                return targets[size] != NONE;
            }
            targets[size] = tape.value;
            return act == BROOM ? tape.hasNumber(0, SIDE_MOST - 1) : tape.hasNumber(1, DAYS_MOST);
        }

        private boolean readCell(Tape tape) {
            if (!tape.hasNumber(0, SIDE_MOST - 1)) {
                return false;
            }
            cellsX[size] = tape.value;
            tape.advance();
            if (!tape.hasNumber(0, SIDE_MOST - 1)) {
                return false;
            }
            cellsY[size] = tape.value;
            tape.advance();
            return true;
        }

        /** Does the lines to the shelves as far as none is wrong. */
        void goThrough(Plan plan, Shelves shelves) {
            why = 0;
            right = 0;
            while (right < size && why == 0) {
                why = goOne(plan, shelves, right);
                if (why == 0) {
                    right++;
                }
            }
            dayThen = shelves.day;
            lawsThen = shelves.booksLawful(plan);
            isTold = true;
        }

        private int goOne(Plan plan, Shelves shelves, int k) {
            int target = targets[k];
            switch (acts[k]) {
                case ASK:
                    return shelves.askFor(target);
                case BROOM:
                    if (!plan.hasRow(target)) {
                        return WHY_NO_ROW;
                    }
                    return whyFrom(WHY_SWEEPING, shelves.sweepRow(plan.books, target));
                case MOVE:
                    if (!plan.hasCell(cellsX[k], cellsY[k])) {
                        return WHY_NO_CELL;
                    }
                    return whyFrom(WHY_MOVING, shelves.carry(plan.books, target, cellsX[k], cellsY[k]));
                default:
                    if (!shelves.hasDays(target)) {
                        return WHY_NO_DAYS;
                    }
                    shelves.passDays(plan, target, target);
                    return 0;
            }
        }

        private static int whyFrom(int base, int why) {
            return why == 0 ? 0 : base + why;
        }
    }

    /** A sentence as a row of tests and joints, each joint behind what it joins. */
    private static final class Sentence {
        boolean isTold = false;
        int ones = 0;
        private int size = 0;
        private final int[] words = new int[SENTENCE_ROOM];
        private final int[] signs = new int[SENTENCE_ROOM];
        private final int[] values = new int[SENTENCE_ROOM];
        private final int[] stack = new int[SENTENCE_ROOM];

        void forget() {
            isTold = false;
            ones = 0;
            size = 0;
        }

        void copyFrom(Sentence other) {
            isTold = other.isTold;
            ones = other.ones;
            size = other.size;
            System.arraycopy(other.words, 0, words, 0, SENTENCE_ROOM);
            System.arraycopy(other.signs, 0, signs, 0, SENTENCE_ROOM);
            System.arraycopy(other.values, 0, values, 0, SENTENCE_ROOM);
        }

        /** A fault stands on the tape then. */
        void readFrom(Tape tape, Plan plan) {
            forget();
            tape.open(SENTENCE_MOST);
            isTold = readCond(tape, plan, 1) && tape.closes();
        }

        private boolean readCond(Tape tape, Plan plan, int depth) {
            if (!readAll(tape, plan, depth)) {
                return false;
            }
            for (int k = 0; k < ONES_MOST && tape.word == OR; k++) {
                tape.advance();
                if (!readAll(tape, plan, depth)) {
                    return false;
                }
                put(OR, 0, 0);
            }
            return true;
        }

        private boolean readAll(Tape tape, Plan plan, int depth) {
            if (!readOne(tape, plan, depth)) {
                return false;
            }
            for (int k = 0; k < ONES_MOST && tape.word == AND; k++) {
                tape.advance();
                if (!readOne(tape, plan, depth)) {
                    return false;
                }
                put(AND, 0, 0);
            }
            return true;
        }

        private boolean readOne(Tape tape, Plan plan, int depth) {
            boolean isBracket = tape.kind == '(';
            if (!isBracket && !beginsOne(tape.word)) {
                return tape.fail(FAULT_TOKEN);
            }
            if (ones >= ONES_MOST || depth > WITHIN_MOST) {
                return tape.fail(FAULT_MANY);
            }
            ones++;
            int word = tape.word;
            tape.advance();
            if (isBracket) {
                return readCond(tape, plan, depth + 1) && tape.passSign(')');
            }
            if (word == NOT) {
                if (!readOne(tape, plan, depth + 1)) {
                    return false;
                }
                put(NOT, 0, 0);
                return true;
            }
            return readTest(tape, plan, word);
        }

        private static boolean beginsOne(int word) {
            return word == RARE || (word >= NOT && word <= NUMBER);
        }

        private boolean readTest(Tape tape, Plan plan, int word) {
            if (word == FOLLOWS) {
                int b = plan.bookTold(tape);
                if (b == NONE) {
                    return false;
                }
                tape.advance();
                put(word, 0, b);
                return true;
            }
            if (word < DUST) {
                put(word, 0, 0);
                return true;
            }
            int sign = tape.kind;
            if (sign < '<' || sign > '>') {
                return tape.fail(FAULT_TOKEN);
            }
            tape.advance();
            if (!tape.hasNumber(0, NUMBER_MOST)) {
                return false;
            }
            put(word, sign, tape.value);
            tape.advance();
            return true;
        }

        private void put(int word, int sign, int value) {
            if (size < SENTENCE_ROOM) {
                words[size] = word;
                signs[size] = sign;
                values[size] = value;
                size++;
            }
        }

        /** As bits: every test answers for all books at once. */
        int booksSaid(Plan plan, Shelves shelves) {
            int every = (1 << plan.books) - 1;
            int top = 0;
            for (int k = 0; k < size; k++) {
                int word = words[k];
                if (word == NOT && top >= 1) {
                    stack[top - 1] = every & ~stack[top - 1];
                } else if ((word == AND || word == OR) && top >= 2) {
                    top--;
                    int both = stack[top - 1] & stack[top];
                    stack[top - 1] = word == AND ? both : stack[top - 1] | stack[top];
                } else if (top < SENTENCE_ROOM) {
                    stack[top] = booksOfTest(plan, shelves, k);
                    top++;
                }
            }
            return stack[0] & every;
        }

        private int booksOfTest(Plan plan, Shelves shelves, int k) {
            switch (words[k]) {
                case DOUBT: return shelves.booksReading(plan, 0);
                case LAWFUL: return shelves.booksReading(plan, 1);
                case DOGMA: return shelves.booksReading(plan, 2);
                case RARE: return plan.rare;
                case ASKED: return shelves.today;
                case FOLLOWS: return plan.hasBook(values[k]) ? shelves.following(plan, values[k]) : 0;
                default: return booksMeasured(plan, shelves, k);
            }
        }

        private int booksMeasured(Plan plan, Shelves shelves, int k) {
            int bits = 0;
            for (int b = 0; b < plan.books; b++) {
                int measure = b;
                if (words[k] == DUST) {
                    measure = shelves.web[b];
                } else if (words[k] == BONDS) {
                    measure = sizeOf(shelves.linesOf(plan, b));
                }
                if (isSo(measure, signs[k], values[k])) {
                    bits |= 1 << b;
                }
            }
            return bits;
        }

        private static boolean isSo(int measure, int sign, int value) {
            switch (sign) {
                case '<': return measure < value;
                case '>': return measure > value;
                default: return measure == value;
            }
        }
    }

    /** How the shelves were ahead of the latest acts; the oldest gives way to a ninth. */
    private static final class Past {
        int size = 0;
        private int next = 0;
        private final Shelves[] kept = new Shelves[ACTS_KEPT];

        Past() {
            for (int k = 0; k < ACTS_KEPT; k++) {
                kept[k] = new Shelves();
            }
        }

        void forget() {
            size = 0;
            next = 0;
        }

        void keepOne(Shelves shelves) {
            if (next < 0 || next >= ACTS_KEPT || kept[next] == null) {
                return;
            }
            kept[next].copyFrom(shelves);
            next = (next + 1) % ACTS_KEPT;
            size = Math.min(ACTS_KEPT, size + 1);
        }

        boolean giveBack(Shelves shelves) {
            int latest = (next + ACTS_KEPT - 1) % ACTS_KEPT;
            if (size == 0 || latest < 0 || kept[latest] == null) {
                return false;
            }
            shelves.copyFrom(kept[latest]);
            next = latest;
            size--;
            return true;
        }
    }

    /** A library as it was when it was kept. */
    private static final class Image {
        boolean isKept = false;
        private final Plan plan = new Plan();
        private final Shelves shelves = new Shelves();
        private final Sentence spoken = new Sentence();

        void keepAll(Plan fromPlan, Shelves fromShelves, Sentence fromSpoken) {
            plan.copyFrom(fromPlan);
            shelves.copyFrom(fromShelves);
            spoken.copyFrom(fromSpoken);
            isKept = true;
        }

        void giveAll(Plan toPlan, Shelves toShelves, Sentence toSpoken) {
            toPlan.copyFrom(plan);
            toShelves.copyFrom(shelves);
            toSpoken.copyFrom(spoken);
        }
    }

    /** What would come of askings in the next days without draughts: webs alone decide it. */
    private static final class Foresight {
        /** A row has a column more than books, which an asking for none may clear. */
        private static final int ROW = BOOKS_MOST + 1;

        int keepSize = 0;
        int askedSize = 0;
        int firstTurn = NONE;
        final int[] keepRow = new int[KEEP_MOST];
        final int[] askedRow = new int[AHEAD_MOST];
        private final int[] choices = new int[AHEAD_MOST];
        private final int[] wantedBooks = new int[PAIRS_TOLD_MOST];
        private final int[] wantedWebs = new int[PAIRS_TOLD_MOST];
        private int wanted = 0;
        /** A row of webs ahead of each day, and one behind the last day. */
        private final int[] webs = new int[(KEEP_MOST + 1) * ROW];
        private int books = 0;
        private int rare = 0;
        private int law = 1;
        private int spin = 1;
        private int today = 0;
        private int daysAhead = 0;

        void look(Plan plan, Shelves shelves, int n) {
            books = plan.books;
            rare = plan.rare;
            law = plan.law;
            spin = Math.max(1, plan.spin);
            today = shelves.today;
            daysAhead = Math.min(n, KEEP_MOST);
            System.arraycopy(shelves.web, 0, webs, 0, BOOKS_MOST);
        }

        private boolean isFree(int day, int b) {
            return day > 0 || bitOf(today, b) == 0;
        }

        /** The number of books stands for the choice of none: it comes behind all of them. */
        private boolean mayChoose(int day, int choice) {
            return choice == books || isFree(day, choice);
        }

        private int bookChosen(int choice) {
            return choice < books ? choice : NONE;
        }

        /** Fills the next row as it is if nobody asks; a choice clears its place there and gives it back. */
        private void passDay(int day) {
            int from = day * ROW;
            for (int b = 0; b < books; b++) {
                int grown = isFree(day, b) ? webs[from + b] + spin : webs[from + b];
                webs[from + ROW + b] = Math.min(THICK_MOST, grown);
            }
        }

        int fewestAskings() {
            for (int askings = 0; askings <= daysAhead; askings++) {
                if (keepsFrom(0, askings)) {
                    keepSize = daysAhead;
                    return askings;
                }
            }
            return NONE;
        }

        private boolean keepsFrom(int day, int askings) {
            if (day >= daysAhead) {
                return true;
            }
            if (askingsNeeded(day) > askings) {
                return false;
            }
            passDay(day);
            for (int choice = 0; choice <= books; choice++) {
                boolean isAsking = choice < books;
                if (isAsking && (askings == 0 || bitOf(rare, choice) == 0 || !isFree(day, choice))) {
                    continue;
                }
                int place = (day + 1) * ROW + choice;
                int grown = webs[place];
                webs[place] = 0;
                if (areRareInDoubt(day + 1) && keepsFrom(day + 1, isAsking ? askings - 1 : askings)) {
                    keepRow[day] = bookChosen(choice);
                    return true;
                }
                webs[place] = grown;
            }
            return false;
        }

        private boolean areRareInDoubt(int day) {
            for (int b = 0; b < books; b++) {
                if (bitOf(rare, b) == 1 && webs[day * ROW + b] >= law) {
                    return false;
                }
            }
            return true;
        }

        /** At least so many are needed, were each rare book alone: it keeps the search small. */
        private int askingsNeeded(int day) {
            int needed = 0;
            for (int b = 0; b < books; b++) {
                if (bitOf(rare, b) == 1) {
                    int rest = isFree(day, b) ? daysAhead - day : daysAhead - day - 1;
                    needed += askingsAlone(webs[day * ROW + b], rest);
                }
            }
            return needed;
        }

        private int askingsAlone(int web, int days) {
            int askings = 0;
            int rest = days;
            int spare = web < law ? (law - 1 - web) / Math.max(1, spin) : 0;
            for (int k = 0; k < KEEP_MOST && rest > spare; k++) {
                askings++;
                rest -= spare + 1;
                spare = (law - 1) / Math.max(1, spin);
            }
            return askings;
        }

        /** Takes the pairs of a book and its web from the tape; false: they are not as told. */
        boolean takeWanted(Tape tape, int booksThere) {
            int pairs = tape.length / 2;
            if (pairs < 1 || pairs > PAIRS_TOLD_MOST || pairs * 2 != tape.length) {
                return false;
            }
            for (int k = 0; k < pairs; k++) {
                wantedBooks[k] = tape.bytes[2 * k];
                wantedWebs[k] = tape.bytes[2 * k + 1];
                if (wantedBooks[k] >= booksThere || wantedWebs[k] > THICK_MOST) {
                    return false;
                }
            }
            wanted = pairs;
            return true;
        }

        int countRows() {
            return countRowsFrom(0, 0);
        }

        /** How many rows in all, if so many were found ahead; the first one found is kept. */
        private int countRowsFrom(int day, int found) {
            if (day >= daysAhead || day >= AHEAD_MOST) {
                return areWebsAsWanted(day) ? noteRow(found) : found;
            }
            passDay(day);
            int rows = found;
            for (int choice = 0; choice <= books; choice++) {
                if (mayChoose(day, choice)) {
                    int place = (day + 1) * ROW + choice;
                    int grown = webs[place];
                    webs[place] = 0;
                    choices[day] = bookChosen(choice);
                    rows = countRowsFrom(day + 1, rows);
                    webs[place] = grown;
                }
            }
            return rows;
        }

        private int noteRow(int found) {
            if (found == 0) {
                System.arraycopy(choices, 0, askedRow, 0, AHEAD_MOST);
                askedSize = daysAhead;
            }
            return found + 1;
        }

        private boolean areWebsAsWanted(int day) {
            for (int k = 0; k < wanted; k++) {
                if (webs[day * ROW + wantedBooks[k]] != wantedWebs[k]) {
                    return false;
                }
            }
            return true;
        }

        int playTurns() {
            int laws = lawsFrom(0);
            firstTurn = choices[0];
            return laws;
        }

        /** How many are law in the end if both sides choose well from this day on; notes the day's choice. */
        private int lawsFrom(int day) {
            if (day >= daysAhead || day >= AHEAD_MOST) {
                return lawsBehind(day);
            }
            passDay(day);
            boolean wantsMost = day % 2 == 0;
            int best = NONE;
            for (int choice = 0; choice <= books; choice++) {
                if (mayChoose(day, choice)) {
                    int place = (day + 1) * ROW + choice;
                    int grown = webs[place];
                    webs[place] = 0;
                    int laws = lawsFrom(day + 1);
                    webs[place] = grown;
                    if (best == NONE || (wantsMost ? laws > best : laws < best)) {
                        best = laws;
                        choices[day] = bookChosen(choice);
                    }
                }
            }
            return best;
        }

        private int lawsBehind(int day) {
            int laws = 0;
            for (int b = 0; b < books; b++) {
                if (webs[day * ROW + b] >= law) {
                    laws++;
                }
            }
            return laws;
        }

        /** As bits, the spins that lead from each web told to the one told behind its days. */
        int spinsOf(Tape tape, int triples) {
            int spins = 0;
            for (int each = 1; each <= SPIN_MOST; each++) {
                spins |= 1 << each;
            }
            for (int k = 0; k < triples && k < TRIPLES_TOLD_MOST; k++) {
                int ahead = tape.bytes[3 * k];
                int gone = tape.bytes[3 * k + 1];
                int behind = tape.bytes[3 * k + 2];
                if (ahead > THICK_MOST || gone < 1 || gone > THICK_MOST || behind > THICK_MOST) {
                    return NONE;
                }
                for (int each = 1; each <= SPIN_MOST; each++) {
                    if (Math.min(THICK_MOST, ahead + each * gone) != behind) {
                        spins &= ~(1 << each);
                    }
                }
            }
            return spins;
        }
    }

    /** The latest way by lines from book to book, and the latest way from the door to a book. */
    private static final class Paths {
        final int[] way = new int[BOOKS_MOST];
        int waySize = 0;
        int tornSteps = NONE;
        private final int[] rings = new int[BOOKS_MOST + 1];
        private final int[] hanging = new int[CELLS_MOST];
        private final int[] costs = new int[CELLS_MOST];
        /** A cell's cost: what is torn up to it times this, and the steps, which stay below it. */
        private static final int TORN_UNIT = 64;
        private static final int COST_NONE = 1000000000;

        int findWay(Plan plan, Shelves shelves, int a, int b) {
            int lines = ringOf(plan, shelves, a, b);
            if (lines == NONE) {
                return NONE;
            }
            way[0] = a;
            for (int k = 1; k <= lines && k < BOOKS_MOST; k++) {
                int nearer = shelves.linesOf(plan, way[k - 1]) & rings[lines - k];
                way[k] = Math.max(0, bookOf(nearer, 0));
            }
            waySize = lines + 1;
            return lines;
        }

        /** Fills the rings round b (all books by how many lines they are away) up to the one that has a. */
        private int ringOf(Plan plan, Shelves shelves, int a, int b) {
            int reached = 1 << b;
            rings[0] = reached;
            for (int ring = 0; ring < BOOKS_MOST && rings[ring] != 0; ring++) {
                if (bitOf(rings[ring], a) == 1) {
                    return ring;
                }
                int touched = 0;
                for (int c = 0; c < plan.books; c++) {
                    if (bitOf(rings[ring], c) == 1) {
                        touched |= shelves.linesOf(plan, c);
                    }
                }
                rings[ring + 1] = touched & ~reached;
                reached |= touched;
            }
            return NONE;
        }

        int findTorn(Plan plan, Shelves shelves, int b) {
            hangThreads(plan, shelves);
            for (int cell = 0; cell < CELLS_MOST; cell++) {
                costs[cell] = COST_NONE;
            }
            costs[0] = hanging[0] * TORN_UNIT;
            boolean isBetter = true;
            for (int round = 0; round < CELLS_MOST && isBetter; round++) {
                isBetter = spreadCosts(plan);
            }
            int cost = costs[cellPlace(shelves.x[b], shelves.y[b])];
            tornSteps = cost % TORN_UNIT;
            return cost / TORN_UNIT;
        }

        private static int cellPlace(int cellX, int cellY) {
            return cellY * SIDE_MOST + cellX;
        }

        private void hangThreads(Plan plan, Shelves shelves) {
            for (int cell = 0; cell < CELLS_MOST; cell++) {
                hanging[cell] = 0;
            }
            for (int a = 0; a < plan.books; a++) {
                for (int b = a + 1; b < plan.books; b++) {
                    int thickness = shelves.threads[pairPlace(a, b)];
                    if (thickness > 0) {
                        hangOne(shelves, a, b, thickness);
                    }
                }
            }
        }

        private void hangOne(Shelves shelves, int a, int b, int thickness) {
            for (int side = 0; side < SIDE_MOST; side++) {
                if (shelves.y[a] == shelves.y[b] && isBetween(side, shelves.x[a], shelves.x[b])) {
                    hanging[cellPlace(side, shelves.y[a])] += thickness;
                }
                if (shelves.x[a] == shelves.x[b] && isBetween(side, shelves.y[a], shelves.y[b])) {
                    hanging[cellPlace(shelves.x[a], side)] += thickness;
                }
            }
        }

        /** True, if a cell was reached at less than before. */
        private boolean spreadCosts(Plan plan) {
            boolean isBetter = false;
            for (int cellY = 0; cellY < plan.high; cellY++) {
                for (int cellX = 0; cellX < plan.wide; cellX++) {
                    int least = costAt(plan, cellX - 1, cellY);
                    least = Math.min(least, costAt(plan, cellX + 1, cellY));
                    least = Math.min(least, costAt(plan, cellX, cellY - 1));
                    least = Math.min(least, costAt(plan, cellX, cellY + 1));
                    int cell = cellPlace(cellX, cellY);
                    int cost = least + hanging[cell] * TORN_UNIT + 1;
                    if (least < COST_NONE && cost < costs[cell]) {
                        costs[cell] = cost;
                        isBetter = true;
                    }
                }
            }
            return isBetter;
        }

        private int costAt(Plan plan, int cellX, int cellY) {
            return plan.hasCell(cellX, cellY) ? costs[cellPlace(cellX, cellY)] : COST_NONE;
        }
    }
}
