import java.util.NoSuchElementException;

/** Each promise of the document by hand-made cases: the ordinary, the edges that it names, wrong inputs. */
public final class PromisesTest {
    private static final Bench BENCH = new Bench();
    private static final int[] WILD = {Integer.MIN_VALUE, -2, -1, 4, 8, 32, Integer.MAX_VALUE};
    /** hume and kant in the first row, work (rare) and tao in the third one. */
    private static final String FOUR = "shelves 4 3;book hume 0 0;book kant 3 0;book work 0 2 rare;book tao 3 2;"
        + "web hume 12;web kant 9;web work 2;thread hume kant 4;thread hume tao 5;quarrel hume kant;law 10;line 3;";

    public static void main(String[] args) {
        newObject();
        tape();
        libraryAndFault();
        books();
        threadsAndSight();
        eightBooks();
        cells();
        nows();
        asking();
        sweeping();
        moving();
        days();
        draughts();
        lastDays();
        undoing();
        whens();
        follows();
        ways();
        quarrels();
        keeping();
        keepingInOrder();
        asked();
        spun();
        torn();
        turns();
        catalogues();
        odds();
        lives();
        wrongLives();
        sentences();
        images();
        counts();
        BENCH.finish("PromisesTest");
    }

    private static void due(String call, long got, long want) {
        BENCH.due(call, got, want);
    }

    private static int bookOr(CobwebLibrary x, int b, int what) {
        try {
            return x.book(b, what);
        } catch (NoSuchElementException e) {
            return -1000;
        }
    }

    private static int quarrelOr(CobwebLibrary x, int what) {
        try {
            return x.quarrel(what);
        } catch (NoSuchElementException e) {
            return -1000;
        }
    }

    private static void newObject() {
        BENCH.part("promise 1");
        CobwebLibrary x = new CobwebLibrary();
        int[] counts = {0, 4, 4, 10, 1, 3, 0, 0};
        for (int what = 0; what < 8; what++) {
            due("count(" + what + ")", x.count(what), counts[what]);
            due("now(" + what + ")", x.now(what), what < 7 ? 0 : -1);
        }
        due("fault()", x.fault(), 0);
        due("wayAt(0)", x.wayAt(0), -1);
        due("keepAt(0)", x.keepAt(0), -1);
        due("askedAt(0)", x.askedAt(0), -1);
        due("steps()", x.steps(), -1);
        due("turn()", x.turn(), -1);
        due("byteAt(0)", x.byteAt(0), -1);
        due("told(0)", x.told(0), -1);
        due("said(-1)", x.said(-1), -1);
        due("undo()", x.undo(), -1);
        due("NONE", CobwebLibrary.NONE, -1);
    }

    private static void tape() {
        BENCH.part("promises 2, 3");
        CobwebLibrary x = new CobwebLibrary();
        due("feed", x.feed(0x6c617720, 0x373b0000, -1, -1, -1), 20);
        due("end(21)", x.end(21) ? 1 : 0, 0);
        due("end(-1)", x.end(-1) ? 1 : 0, 0);
        due("end(min)", x.end(Integer.MIN_VALUE) ? 1 : 0, 0);
        due("count(7)", x.count(7), 20);
        due("end(20)", x.end(20) ? 1 : 0, 1);
        due("end(6)", x.end(6) ? 1 : 0, 1);
        due("library of 'law 7;'", x.library(), 1);
        due("count(3)", x.count(3), 7);
        due("end(0)", x.end(0) ? 1 : 0, 1);
        due("end(1)", x.end(1) ? 1 : 0, 0);
        for (int k = 1; k <= 47; k++) {
            due("feed", x.feed(1, 2, 3, 4, 5), 20 * k);
        }
        due("feed beyond 940", x.feed(1, 2, 3, 4, 5), -1);
        due("count(7)", x.count(7), 940);
        x.end(921);
        due("feed beyond 940 by one", x.feed(1, 2, 3, 4, 5), -1);
        due("count(7)", x.count(7), 921);
        x.end(920);
        due("feed up to 940", x.feed(1, 2, 3, 4, 5), 940);
    }

    private static void libraryAndFault() {
        BENCH.part("promises 4, 5");
        CobwebLibrary x = Bench.library(FOUR);
        Bench.feed(x, "number = 0");
        x.sentence();
        x.ask(1);
        x.days(3, 1);
        Bench.feed(x, "book a 0 0;web a 0;");
        due("library()", x.library(), -18);
        due("fault()", x.fault(), 2);
        due("count(7)", x.count(7), 0);
        due("count(0)", x.count(0), 4);
        due("now(0)", x.now(0), 3);
        due("said(-1)", x.said(-1), 1);
        due("undo()", x.undo(), 1);
        Bench.feed(x, "book a 1 1;web a 7;");
        due("library()", x.library(), 2);
        due("fault()", x.fault(), 0);
        due("now(0)", x.now(0), 0);
        due("now(6)", x.now(6), 0);
        due("now(4)", x.now(4), 7);
        due("now(5)", x.now(5), 0);
        due("said(-1)", x.said(-1), -1);
        due("undo()", x.undo(), -1);
        due("count(2)", x.count(2), 4);
        due("quarrels()", x.quarrels(), 0);
        due("library() of an empty tape", x.library(), 0);
        due("count(0)", x.count(0), 0);
        Bench.feed(x, "day 0;");
        due("life(0)", x.life(0), -6);
        due("fault()", x.fault(), 2);
        due("life(2)", x.life(2), -1000);
        due("fault() behind -1000", x.fault(), 2);
        due("spun() leaves it", x.spun(), -1);
        due("fault()", x.fault(), 2);
        due("sentence()", x.sentence(), -1);
        due("fault()", x.fault(), 1);
    }

    private static void books() {
        BENCH.part("promise 6");
        CobwebLibrary x = Bench.library(FOUR + "spin 5;");
        int[][] rows = {{0, 0, 12, 1, 0, 0, 0, 10}, {3, 0, 9, 0, 0, 0, 0, 1}, {0, 2, 2, 0, 1, 0, 0, 0},
            {3, 2, 0, 0, 0, 0, 0, 1}};
        for (int b = 0; b < 4; b++) {
            for (int what = 0; what < 8; what++) {
                due("book(" + b + ", " + what + ")", bookOr(x, b, what), rows[b][what]);
            }
        }
        for (int wild : WILD) {
            due("book(" + wild + ", 0)", bookOr(x, wild, 0), -1000);
            if (wild != 4) {
                due("book(0, " + wild + ")", bookOr(x, 0, wild), -1000);
            }
        }
        due("days", x.days(1, 0), 1);
        due("book(0, 3)", bookOr(x, 0, 3), 1);
        due("days", x.days(1, 0), 1);
        due("book(0, 2)", bookOr(x, 0, 2), 22);
        due("book(0, 3)", bookOr(x, 0, 3), 2);
        due("book(1, 3) by 19", bookOr(x, 1, 3), 1);
        x.ask(0);
        due("book(0, 5)", bookOr(x, 0, 5), 1);
        due("book(0, 7)", bookOr(x, 0, 7), 0);
        x.days(1, 0);
        x.ask(0);
        due("book(0, 6)", bookOr(x, 0, 6), 2);
    }

    private static void threadsAndSight() {
        BENCH.part("promises 7, 8");
        CobwebLibrary x = Bench.library("shelves 6 2;book a 0 0;book b 2 0;book c 5 0;book d 2 1;thread c a 7;");
        due("thread(0, 2)", x.thread(0, 2), 7);
        due("thread(2, 0)", x.thread(2, 0), 7);
        due("thread(0, 1)", x.thread(0, 1), 0);
        due("thread(1, 1)", x.thread(1, 1), -1);
        due("sight(0)", x.sight(0), 2);
        due("sight(1)", x.sight(1), 13);
        due("sight(2)", x.sight(2), 2);
        due("sight(3)", x.sight(3), 2);
        for (int wild : WILD) {
            due("thread(0, " + wild + ")", x.thread(0, wild), -1);
            due("thread(" + wild + ", 0)", x.thread(wild, 0), -1);
            due("sight(" + wild + ")", x.sight(wild), -1);
        }
        due("move(1, 1, 1)", x.move(1, 1, 1), 0);
        due("sight(0)", x.sight(0), 4);
        due("sight(1)", x.sight(1), 8);
        CobwebLibrary column = Bench.library("book a 1 2;book b 1 0;book c 1 3;book d 2 1;book e 2 3;");
        due("sight(0) in a column", column.sight(0), 6);
        due("sight(1) in a column", column.sight(1), 1);
        due("sight(2) in a column", column.sight(2), 17);
        due("sight(3) in a column", column.sight(3), 16);
    }

    /** Eight books, all places of the shelves' corners: nothing may go beyond the rows of eight. */
    private static void eightBooks() {
        BENCH.part("eight books");
        CobwebLibrary x = Bench.library("shelves 6 6;law 1;line 1;book a 0 0 rare;book b 5 0;book c 0 5;book d 5 5;"
            + "book e 2 2;book f 3 2;book g 2 3;book h 3 3 rare;thread a h 1;thread g h 1;quarrel h g;quarrel a b;draught 12;");
        due("sight(7)", x.sight(7), 1 << 5 | 1 << 6);
        due("sight(3)", x.sight(3), 6);
        due("at(5, 5)", x.at(5, 5), 3);
        due("way(6, 0)", x.way(6, 0), 2);
        due("wayAt(1)", x.wayAt(1), 7);
        due("follow(0)", x.follow(0), 1 | 1 << 6 | 1 << 7);
        due("turns(3)", x.turns(3), 8);
        due("turn()", x.turn(), 0);
        due("turns(2)", x.turns(2), 7);
        due("keep(1)", x.keep(1), -1);
        due("keep(8)", x.keep(8), -1);
        due("asked(3)", askedBy(x, 3, 7, 0, 0, 1), 9);
        due("askedAt(0)", x.askedAt(0), 0);
        due("askedAt(1)", x.askedAt(1), 0);
        due("askedAt(2)", x.askedAt(2), 7);
        due("torn(3)", x.torn(3), 0);
        due("steps()", x.steps(), 10);
        due("broom(3)", x.broom(3), 0);
        due("now(5)", x.now(5), 0);
        due("ask(7)", x.ask(7), 0);
        due("move(7, 5, 4)", x.move(7, 5, 4), 0);
        due("days(30, 4)", x.days(30, 4), 30);
        due("quarrels()", x.quarrels() <= 2 ? 1 : 0, 1);
        saidOf(x, "number > 5", 6, 7);
        due("catalogue(7)", x.catalogue(7) > 0 ? x.byteAt(0) : -1, 'h');
    }

    private static void cells() {
        BENCH.part("promise 9");
        CobwebLibrary x = Bench.library(FOUR);
        due("at(0, 0)", x.at(0, 0), 0);
        due("at(3, 2)", x.at(3, 2), 3);
        due("at(1, 1)", x.at(1, 1), -1);
        for (int wild : WILD) {
            due("at(" + wild + ", 0)", x.at(wild, 0), -1);
            due("at(0, " + wild + ")", x.at(0, wild), -1);
        }
    }

    private static void nows() {
        BENCH.part("promise 10");
        CobwebLibrary x = Bench.library(FOUR + "spin 2;");
        int[] ahead = {0, 1, 0, 0, 23, 9, 0};
        for (int what = 0; what < 7; what++) {
            due("now(" + what + ")", x.now(what), ahead[what]);
        }
        for (int wild : WILD) {
            if (wild != 4) {
                due("now(" + wild + ")", x.now(wild), -1);
            }
        }
        x.days(4, 9);
        int[] behind = {4, 1 << 1 | 1 << 2, 1, 0, 20 + 17 + 10 + 8, 8 + 5 + 4 + 4 + 4, 0};
        for (int what = 0; what < 7; what++) {
            due("now(" + what + ")", x.now(what), behind[what]);
        }
        x.ask(2);
        x.ask(0);
        due("now(3)", x.now(3), 5);
        due("now(6)", x.now(6), 2);
        due("now(4)", x.now(4), 25);
        x.days(1, 9);
        due("now(3)", x.now(3), 0);
        due("now(6)", x.now(6), 2);
    }

    private static void asking() {
        BENCH.part("promise 11");
        CobwebLibrary x = Bench.library(FOUR);
        due("ask(0)", x.ask(0), 0);
        due("book(0, 2)", bookOr(x, 0, 2), 0);
        due("now(5)", x.now(5), 0);
        due("ask(0)", x.ask(0), 1);
        due("book(0, 6)", bookOr(x, 0, 6), 1);
        for (int wild : WILD) {
            due("ask(" + wild + ")", x.ask(wild), -1);
        }
        x.days(1, 0);
        due("its web did not grow", bookOr(x, 0, 2), 0);
        due("thread(0, 1)", x.thread(0, 1), 0);
        due("thread(1, 3)", x.thread(1, 3), 1);
        due("thread(2, 3)", x.thread(2, 3), 1);
        due("ask(0) the next day", x.ask(0), 0);
        due("a web of 0 may be asked for", x.ask(3), 0);
    }

    private static void sweeping() {
        BENCH.part("promise 12");
        CobwebLibrary x = Bench.library("book a 0 0;book b 3 0;book c 0 2;book d 1 1;web b 5;web d 8;thread a c 4;thread c d 6;");
        due("broom(3)", x.broom(3), 1);
        due("broom(0)", x.broom(0), 0);
        due("book(1, 2)", bookOr(x, 1, 2), 0);
        due("thread(0, 2)", x.thread(0, 2), 0);
        due("thread(2, 3)", x.thread(2, 3), 6);
        due("book(3, 2)", bookOr(x, 3, 2), 8);
        due("broom(0)", x.broom(0), 1);
        due("a thread alone", x.broom(2), 0);
        due("now(5)", x.now(5), 0);
        due("broom(2)", x.broom(2), 1);
        due("a web alone", x.broom(1), 0);
        due("now(4)", x.now(4), 0);
        due("no asking", x.now(6), 0);
        CobwebLibrary thin = Bench.library("book a 0 0;book b 1 0;book c 1 1;book d 2 2;web d 1;thread c a 1;");
        due("a thread of 1", thin.broom(1), 0);
        due("a web of 1", thin.broom(2), 0);
        due("nothing left", thin.broom(0), 1);
        for (int wild : WILD) {
            due("broom(" + wild + ")", x.broom(wild), -1);
        }
    }

    private static void moving() {
        BENCH.part("promise 13");
        CobwebLibrary x = Bench.library(FOUR);
        due("move(0, 0, 0)", x.move(0, 0, 0), 1);
        due("move(0, 3, 0)", x.move(0, 3, 0), 1);
        due("move(0, 1, 1)", x.move(0, 1, 1), 0);
        due("at(1, 1)", x.at(1, 1), 0);
        due("at(0, 0)", x.at(0, 0), -1);
        due("book(0, 2)", bookOr(x, 0, 2), 12);
        due("now(5)", x.now(5), 0);
        due("book(0, 5)", bookOr(x, 0, 5), 0);
        due("move(0, 0, 0)", x.move(0, 0, 0), 0);
        for (int wild : WILD) {
            due("move(" + wild + ", 1, 1)", x.move(wild, 1, 1), -1);
            due("move(0, " + wild + ", 1)", x.move(0, wild, 1), -1);
            due("move(0, 1, " + wild + ")", x.move(0, 1, wild), -1);
        }
        due("move(0, 1, 3)", x.move(0, 1, 3), -1);
    }

    private static void days() {
        BENCH.part("promise 14");
        CobwebLibrary x = Bench.library("book a 0 0;book b 1 0;book c 3 3;web a 97;thread a b 98;spin 4;");
        for (int wild : new int[] {Integer.MIN_VALUE, -1, 0, 31, Integer.MAX_VALUE}) {
            due("days(" + wild + ", 1)", x.days(wild, 1), -1);
        }
        due("days(1, 1)", x.days(1, 1), 1);
        due("no web above 99", bookOr(x, 0, 2), 99);
        due("book(2, 2)", bookOr(x, 2, 2), 4);
        due("thread(0, 1)", x.thread(0, 1), 99);
        due("thread(0, 2)", x.thread(0, 2), 0);
        due("days(2, 1)", x.days(2, 1), 2);
        due("no thread above 99", x.thread(0, 1), 99);
        due("book(2, 2)", bookOr(x, 2, 2), 12);
        x.ask(1);
        due("days(2, 1)", x.days(2, 1), 2);
        due("asked for: one day less", bookOr(x, 1, 2), 4);
        due("asked for: one day less", x.thread(0, 1), 1);
    }

    /** Webs and threads by the draws, which are made here once more. */
    private static void draughts() {
        BENCH.part("draughts");
        CobwebLibrary x = Bench.library("book a 0 0;book b 1 0;book c 2 0;web a 50;draught 7;spin 2;");
        int[] webs = {50, 0, 0};
        int[] threads = {0, 0};
        int seed = 77;
        int halved = 0;
        for (int day = 0; day < 30; day++) {
            for (int b = 0; b < 3; b++) {
                webs[b] = Math.min(99, webs[b] + 2);
            }
            threads[0]++;
            threads[1]++;
            seed = seed * 1103515245 + 12345;
            if ((seed >>> 8) % 12 < 7) {
                seed = seed * 1103515245 + 12345;
                int b = (seed >>> 8) % 3;
                webs[b] /= 2;
                threads[0] = b < 2 ? 0 : threads[0];
                threads[1] = b > 0 ? 0 : threads[1];
                halved++;
            }
        }
        due("some draughts, not all days", halved > 5 && halved < 30 ? 1 : 0, 1);
        due("days(30, 77)", x.days(30, 77), 30);
        for (int b = 0; b < 3; b++) {
            due("book(" + b + ", 2)", bookOr(x, b, 2), webs[b]);
        }
        due("thread(0, 1)", x.thread(0, 1), threads[0]);
        due("thread(1, 2)", x.thread(1, 2), threads[1]);
        CobwebLibrary none = Bench.library("draught 12;");
        due("days without books", none.days(30, 5), 30);
        CobwebLibrary always = Bench.library("book a 0 0;web a 9;draught 12;");
        always.days(1, 3);
        due("a draught each day", bookOr(always, 0, 2), 5);
        always.days(1, 3);
        due("half is cut", bookOr(always, 0, 2), 3);
    }

    private static CobwebLibrary lateLibrary(String text, int day) {
        CobwebLibrary x = Bench.library(text);
        for (int k = 0; k < day; k += 30) {
            x.days(Math.min(30, day - k), 1);
        }
        return x;
    }

    private static void lastDays() {
        BENCH.part("the last days");
        CobwebLibrary x = lateLibrary("book a 0 0 rare;law 50;", 395);
        due("now(0)", x.now(0), 395);
        x.ask(0);
        due("when(0)", x.when(0), -1);
        due("keep(6)", x.keep(6), -1);
        due("keep(5)", x.keep(5), 0);
        due("days(30, 1)", x.days(30, 1), 5);
        due("now(0)", x.now(0), 400);
        due("days(1, 1)", x.days(1, 1), 0);
        due("undo()", x.undo() >= 0 ? x.now(0) : -1, 395);
        x.days(3, 1);
        due("asked(3)", askedBy(x, 3, 0, 5), -1);
        due("the tape is empty", x.count(7), 0);
        due("asked(2)", askedBy(x, 2, 0, 4), 1);
        due("turns(3)", x.turns(3), -1);
        due("turns(2)", x.turns(2), 0);
        x.days(2, 1);
        due("now(0)", x.now(0), 400);
        due("keep(1)", x.keep(1), -1);
        due("turns(1)", x.turns(1), -1);
        due("asked(1)", askedBy(x, 1, 0, 4), -1);
        due("ask(0)", x.ask(0), 0);
        Bench.feed(x, "day 1;");
        due("life(0)", x.life(0), 0);
        due("told(0)", x.told(0), 31);
        CobwebLibrary y = lateLibrary("book a 0 0;law 50;", 359);
        y.ask(0);
        due("when(0)", y.when(0), -1);
        due("undo()", y.undo() >= 0 ? 1 : 0, 1);
        due("when(0) that is so", y.when(0), 0);
        CobwebLibrary z = lateLibrary("book a 0 0;law 41;", 358);
        z.ask(0);
        due("when(0) on the last day", z.when(0), 42);
        CobwebLibrary later = lateLibrary("book a 0 0;law 41;", 359);
        later.ask(0);
        due("when(0) a day behind it", later.when(0), -1);
    }

    private static void undoing() {
        BENCH.part("promise 15");
        CobwebLibrary x = Bench.library(FOUR);
        x.ask(0);
        x.ask(0);
        x.broom(1);
        x.move(1, 0, 0);
        x.days(0, 1);
        due("undo()", x.undo(), 0);
        due("now(6)", x.now(6), 0);
        due("now(5)", x.now(5), 9);
        due("undo()", x.undo(), -1);
        x.days(2, 1);
        x.ask(2);
        x.broom(0);
        x.move(3, 1, 1);
        Bench.feed(x, "day 3;ask hume;ask hume;ask kant;");
        due("life(1)", x.life(1), 2);
        due("now(0)", x.now(0), 5);
        due("now(6)", x.now(6), 2);
        due("undo() of a life", x.undo(), 4);
        due("now(0)", x.now(0), 2);
        due("now(6)", x.now(6), 1);
        due("undo() of a move", x.undo(), 3);
        due("at(3, 2)", x.at(3, 2), 3);
        due("thread(1, 3)", x.thread(1, 3), 0);
        due("undo() of a sweep", x.undo(), 2);
        due("book(0, 2)", bookOr(x, 0, 2), 14);
        due("thread(0, 1)", x.thread(0, 1), 6);
        due("undo() of an asking", x.undo(), 1);
        due("book(2, 2)", bookOr(x, 2, 2), 4);
        due("book(2, 5)", bookOr(x, 2, 5), 0);
        due("undo() of days", x.undo(), 0);
        due("now(0)", x.now(0), 0);
        for (int k = 0; k < 10; k++) {
            x.days(1, 1);
        }
        due("undo() of the tenth", x.undo(), 7);
        for (int k = 6; k >= 0; k--) {
            due("undo()", x.undo(), k);
        }
        due("now(0)", x.now(0), 2);
        due("undo()", x.undo(), -1);
        Bench.feed(x, "day 3;");
        x.life(0);
        due("a judged life is none", x.undo(), -1);
        Bench.feed(x, "number = 1");
        x.ask(0);
        x.sentence();
        due("undo()", x.undo(), 0);
        due("the sentence stays", x.said(0), 1);
    }

    private static void whens() {
        BENCH.part("promise 16");
        CobwebLibrary x = Bench.library("book a 0 0;book b 1 0;book c 2 0;book d 3 0;web a 10;web b 99;web c 9;spin 3;draught 12;");
        due("when(0)", x.when(0), 0);
        due("when(1)", x.when(1), 0);
        due("when(2)", x.when(2), 1);
        due("when(3)", x.when(3), 4);
        x.ask(0);
        due("when(0) asked for", x.when(0), 5);
        for (int wild : WILD) {
            due("when(" + wild + ")", x.when(wild), -1);
        }
    }

    private static final String CHAIN = "shelves 6 2;book a 0 0;book b 1 0;book c 2 0;book d 3 0;book e 4 0;book f 5 0;"
        + "line 4;thread a f 4;thread f c 9;thread a d 4;thread d c 5;thread c e 4;thread a b 3;";

    private static void follows() {
        BENCH.part("promise 17");
        CobwebLibrary x = Bench.library(CHAIN);
        due("follow(0)", x.follow(0), 0b111101);
        due("follow(4)", x.follow(4), 0b111101);
        due("follow(1)", x.follow(1), 2);
        for (int wild : new int[] {-1, 6, 8, Integer.MIN_VALUE, Integer.MAX_VALUE}) {
            due("follow(" + wild + ")", x.follow(wild), -1);
        }
        x.ask(2);
        due("follow(0)", x.follow(0), 0b101001);
        due("follow(4)", x.follow(4), 16);
    }

    private static void ways() {
        BENCH.part("promises 18, 19");
        CobwebLibrary x = Bench.library(CHAIN);
        due("way(0, 4)", x.way(0, 4), 3);
        int[] row = {0, 3, 2, 4, -1};
        for (int k = 0; k < row.length; k++) {
            due("wayAt(" + k + ")", x.wayAt(k), row[k]);
        }
        due("way(0, 1)", x.way(0, 1), -1);
        due("way(0, 6)", x.way(0, 6), -1);
        due("way(-1, 0)", x.way(-1, 0), -1);
        due("way(6, 0)", x.way(6, 0), -1);
        due("way(0, -1)", x.way(0, -1), -1);
        due("wayAt(3) of the latest that was", x.wayAt(3), 4);
        due("way(4, 0)", x.way(4, 0), 3);
        int[] back = {4, 2, 3, 0, -1};
        for (int k = 0; k < back.length; k++) {
            due("wayAt(" + k + ")", x.wayAt(k), back[k]);
        }
        due("way(1, 1)", x.way(1, 1), 0);
        due("wayAt(0)", x.wayAt(0), 1);
        due("wayAt(1)", x.wayAt(1), -1);
        due("wayAt(-1)", x.wayAt(-1), -1);
        due("library()", x.library(), 0);
        due("wayAt(0) stays", x.wayAt(0), 1);
        CobwebLibrary all = Bench.library("line 1;book a 0 0;book b 1 0;book c 2 0;book d 3 0;book e 0 1;book f 1 1;"
            + "book g 2 1;book h 3 1;thread a h 1;thread h b 1;thread b g 1;thread g c 1;thread c f 1;thread f d 1;thread d e 1;");
        due("way(0, 4)", all.way(0, 4), 7);
        due("wayAt(7)", all.wayAt(7), 4);
        due("wayAt(8)", all.wayAt(8), -1);
    }

    private static void quarrels() {
        BENCH.part("promises 20, 21");
        CobwebLibrary x = Bench.library("book a 0 0;book b 1 0;book c 2 0;book d 3 0;web b 10;web c 30;web d 9;"
            + "quarrel d b;quarrel c b;quarrel a b;");
        due("quarrels()", x.quarrels(), 1);
        due("quarrel(0)", quarrelOr(x, 0), 1);
        due("quarrel(1)", quarrelOr(x, 1), 2);
        due("quarrel(2)", quarrelOr(x, 2), -1000);
        due("quarrel(-1)", quarrelOr(x, -1), -1000);
        x.days(10, 1);
        due("quarrels()", x.quarrels(), 3);
        due("quarrel(0)", quarrelOr(x, 0), 0);
        due("quarrel(1)", quarrelOr(x, 1), 1);
        x.ask(0);
        due("quarrels()", x.quarrels(), 2);
        due("quarrel(1)", quarrelOr(x, 1), 2);
        x.ask(1);
        due("quarrels()", x.quarrels(), 0);
        due("quarrel(0)", quarrelOr(x, 0), -1000);
    }

    private static void keepRow(CobwebLibrary x, int n, int askings, int... row) {
        due("keep(" + n + ")", x.keep(n), askings);
        for (int k = 0; k < row.length; k++) {
            due("keepAt(" + k + ") of keep(" + n + ")", x.keepAt(k), row[k]);
        }
    }

    private static void keeping() {
        BENCH.part("promises 22, 23");
        CobwebLibrary x = Bench.library("law 3;book a 0 0 rare;book b 1 0;book c 2 0 rare;web a 1;web b 90;");
        keepRow(x, 1, 0, -1, -1);
        keepRow(x, 2, 1, 0, -1, -1);
        keepRow(x, 3, 2, 0, 2, -1, -1);
        due("keepAt(-1)", x.keepAt(-1), -1);
        for (int wild : new int[] {Integer.MIN_VALUE, -1, 0, 9, Integer.MAX_VALUE}) {
            due("keep(" + wild + ")", x.keep(wild), -1);
        }
        due("keepAt(1) of the latest that was", x.keepAt(1), 2);
        CobwebLibrary never = Bench.library("law 1;book a 0 0 rare;book b 1 0 rare;");
        due("keep(1) by none", never.keep(1), -1);
        never.ask(0);
        keepRow(never, 1, 1, 1, -1);
        due("keep(2) by none", never.keep(2), -1);
        CobwebLibrary law = Bench.library("law 2;book a 0 0;book b 1 0 rare;book c 2 0 rare;web b 99;");
        keepRow(law, 4, 4, 1, 2, 1, 2, -1);
        keepRow(Bench.library("book a 0 0;web a 99;"), 8, 0, -1);
        CobwebLibrary one = Bench.library("law 1;book a 0 0 rare;");
        keepRow(one, 8, 8, 0, 0, 0, 0, 0, 0, 0, 0, -1);
        one.ask(0);
        keepRow(one, 8, 7, -1, 0, 0, 0, 0, 0, 0, 0, -1);
    }

    private static void keepingInOrder() {
        BENCH.part("promise 22, the first of like ones");
        CobwebLibrary x = Bench.library("law 5;book a 0 0 rare;book b 1 0 rare;book c 2 0 rare;web a 2;web b 2;web c 2;");
        keepRow(x, 3, 3, 0, 1, 2, -1);
        CobwebLibrary y = Bench.library("law 9;spin 2;book a 0 0 rare;book b 1 0 rare;web b 7;web a 1;");
        keepRow(y, 4, 2, 1, 0, -1, -1);
        CobwebLibrary asked = Bench.library("law 4;book a 0 0 rare;book b 1 0 rare;web a 3;web b 2;");
        asked.ask(0);
        keepRow(asked, 3, 1, 1, -1, -1, -1);
        keepRow(asked, 4, 1, 1, -1, -1, -1);
        keepRow(asked, 5, 2, -1, 1, 0, -1, -1);
    }

    private static int askedBy(CobwebLibrary x, int n, int... bytes) {
        Bench.feed(x, bytes);
        return x.asked(n);
    }

    private static void asked() {
        BENCH.part("promises 24, 25");
        CobwebLibrary x = Bench.library("book a 0 0;book b 1 0;book c 2 0;web a 5;web b 97;spin 2;");
        due("a's web grows: not a", askedBy(x, 1, 0, 7), 3);
        due("askedAt(0)", x.askedAt(0), 1);
        due("askedAt(1)", x.askedAt(1), -1);
        due("a asked for", askedBy(x, 1, 0, 0), 1);
        due("askedAt(0)", x.askedAt(0), 0);
        due("a asked for ahead of the first of two", askedBy(x, 2, 0, 2), 3);
        due("askedAt(0)", x.askedAt(0), 0);
        due("askedAt(1)", x.askedAt(1), 1);
        due("none", askedBy(x, 2, 0, 9, 1, 99, 2, 4), 1);
        due("askedAt(0)", x.askedAt(0), -1);
        due("askedAt(1)", x.askedAt(1), -1);
        due("can't be", askedBy(x, 3, 0, 1), 0);
        due("all rows", askedBy(x, 3, 1, 99), 27);
        due("askedAt(0)", x.askedAt(0), 0);
        due("askedAt(2)", x.askedAt(2), 0);
        due("askedAt(3)", x.askedAt(3), -1);
        due("askedAt(-1)", x.askedAt(-1), -1);
        due("a book told twice alike", askedBy(x, 1, 0, 0, 0, 0), 1);
        due("a book told twice unlike", askedBy(x, 1, 0, 0, 0, 7), 0);
        due("eight pairs", askedBy(x, 1, 0, 0, 0, 0, 0, 0, 0, 0, 0, 0, 0, 0, 0, 0, 0, 0), 1);
        due("nine pairs", askedBy(x, 1, 0, 0, 0, 0, 0, 0, 0, 0, 0, 0, 0, 0, 0, 0, 0, 0, 0, 0), -1);
        due("no such book", askedBy(x, 1, 3, 0), -1);
        due("no such book", askedBy(x, 1, 255, 0), -1);
        due("no such web", askedBy(x, 1, 0, 100), -1);
        due("no such web", askedBy(x, 1, 0, 255), -1);
        due("half a pair", askedBy(x, 1, 0, 7, 1), -1);
        due("nothing", x.asked(1), -1);
        for (int wild : new int[] {Integer.MIN_VALUE, -1, 0, 4, Integer.MAX_VALUE}) {
            due("asked(" + wild + ")", askedBy(x, wild, 0, 0), -1);
            due("the tape behind it", x.count(7), 0);
        }
        x.ask(0);
        due("a asked for today", askedBy(x, 1, 0, 0), 3);
        due("askedAt(0)", x.askedAt(0), 1);
        due("a asked for the next day", askedBy(x, 2, 0, 0), 3);
        due("askedAt(0)", x.askedAt(0), 1);
        due("askedAt(1)", x.askedAt(1), 0);
        due("nothing is done by it", x.now(6), 1);
    }

    private static int spunBy(int... bytes) {
        CobwebLibrary x = new CobwebLibrary();
        Bench.feed(x, bytes);
        int spins = x.spun();
        due("the tape behind spun()", x.count(7), 0);
        return spins;
    }

    private static void spun() {
        BENCH.part("promise 26");
        due("one", spunBy(3, 4, 7), 2);
        due("five", spunBy(3, 4, 23), 32);
        due("none", spunBy(3, 4, 8), 0);
        due("six", spunBy(0, 1, 6), 0);
        due("all at 99", spunBy(99, 1, 99), 62);
        due("up to 99", spunBy(90, 3, 99), 8 | 16 | 32);
        due("two triples", spunBy(90, 3, 99, 80, 4, 96), 16);
        due("six triples", spunBy(0, 1, 1, 0, 1, 1, 0, 1, 1, 0, 1, 1, 0, 1, 1, 0, 1, 1), 2);
        due("seven triples", spunBy(0, 1, 1, 0, 1, 1, 0, 1, 1, 0, 1, 1, 0, 1, 1, 0, 1, 1, 0, 1, 1), -1);
        due("99 days", spunBy(0, 99, 99), 62);
        due("100 days", spunBy(0, 100, 99), -1);
        due("no days", spunBy(0, 0, 0), -1);
        due("no such web", spunBy(100, 1, 99), -1);
        due("no such web", spunBy(99, 1, 100), -1);
        due("a wrong one behind", spunBy(0, 1, 9, 0, 0, 0), -1);
        due("a bit of a triple", spunBy(0, 1), -1);
        due("four bytes", spunBy(0, 1, 1, 0), -1);
        due("nothing", spunBy(), -1);
    }

    private static void torn() {
        BENCH.part("promises 27, 28");
        CobwebLibrary x = Bench.library("shelves 3 3;book a 0 1;book b 2 1;book c 0 2;thread a b 9;thread a c 5;");
        due("torn(1)", x.torn(1), 0);
        due("steps()", x.steps(), 3);
        due("torn(2)", x.torn(2), 0);
        due("steps()", x.steps(), 2);
        for (int wild : WILD) {
            due("torn(" + wild + ")", x.torn(wild), -1);
        }
        due("steps() of the latest that was", x.steps(), 2);
        CobwebLibrary wall = Bench.library("shelves 4 4;book a 0 1;book b 3 1;book c 1 3;thread a b 9;");
        due("round the wall, through a's cell", wall.torn(2), 0);
        due("steps()", wall.steps(), 4);
        CobwebLibrary shut = Bench.library("shelves 3 4;book a 1 0;book b 1 3;book c 2 2;book d 1 2;"
            + "thread a b 7;thread a d 2;");
        due("through the top, where a is", shut.torn(2), 0);
        due("steps()", shut.steps(), 4);
        due("to d, over whom a thread hangs", shut.torn(3), 7);
        due("steps()", shut.steps(), 3);
        CobwebLibrary twice = Bench.library("shelves 2 6;book a 0 0;book b 0 5;book c 1 0;book d 1 4;book e 0 3;"
            + "thread a b 1;thread c d 9;");
        due("a thread over three cells counts thrice", twice.torn(4), 3);
        due("steps()", twice.steps(), 3);
        CobwebLibrary back = Bench.library("shelves 3 3;book a 0 0;book b 0 2;book c 1 0;book d 1 2;book e 0 1;book f 2 1;"
            + "thread a b 90;thread c d 9;thread e f 30;");
        due("to e by its own cell", back.torn(4), 90);
        CobwebLibrary leftward = Bench.library("shelves 3 3;book a 0 0;book b 0 2;book d 1 2;book e 1 0;book f 2 0;book g 2 2;"
            + "thread a b 9;thread e d 8;thread f g 1;");
        due("round and leftward", leftward.torn(1), 1);
        due("steps()", leftward.steps(), 6);
        CobwebLibrary slanted = Bench.library("book a 0 0;book b 2 2;thread a b 50;");
        due("no row or column", slanted.torn(1), 0);
        due("steps()", slanted.steps(), 4);
        due("at the door", slanted.torn(0), 0);
        due("steps()", slanted.steps(), 0);
        CobwebLibrary round = Bench.library("shelves 4 2;book a 0 1;book b 3 1;book c 2 0;book d 0 0;book e 3 0;"
            + "thread a b 1;thread c d 3;thread d e 3;");
        due("below twice, then up", round.torn(2), 5);
        due("steps()", round.steps(), 4);
    }

    private static void turns() {
        BENCH.part("promises 29, 30");
        CobwebLibrary x = Bench.library("law 5;book a 0 0;book b 1 0;web a 4;web b 3;");
        due("turns(1)", x.turns(1), 1);
        due("turn()", x.turn(), 1);
        due("turns(2)", x.turns(2), 1);
        due("turn()", x.turn(), -1);
        for (int wild : new int[] {Integer.MIN_VALUE, -1, 0, 4, Integer.MAX_VALUE}) {
            due("turns(" + wild + ")", x.turns(wild), -1);
        }
        due("turn() of the latest that was", x.turn(), -1);
        CobwebLibrary one = Bench.library("law 1;book a 0 0;web a 1;");
        due("turns(1)", one.turns(1), 1);
        due("turn()", one.turn(), -1);
        due("turns(2)", one.turns(2), 0);
        due("turn()", one.turn(), 0);
        due("turns(3): the first side ends", one.turns(3), 1);
        due("turn()", one.turn(), 0);
        one.ask(0);
        due("turns(2)", one.turns(2), 0);
        due("a was asked for today", one.turn(), -1);
        due("turns(1)", one.turns(1), 0);
        CobwebLibrary first = Bench.library("law 50;book a 0 0;book b 1 0;");
        first.ask(0);
        due("turns(1)", first.turns(1), 0);
        due("turn()", first.turn(), 1);
        CobwebLibrary nothing = new CobwebLibrary();
        due("turns(3)", nothing.turns(3), 0);
        due("turn()", nothing.turn(), -1);
    }

    private static void same(String what, String got, String want) {
        due(what + " (" + got + ", due is " + want + ")", got.equals(want) ? 1 : 0, 1);
    }

    private static void catalogues() {
        BENCH.part("promises 31, 32");
        CobwebLibrary x = Bench.library("book a 0 0;book physics 1 0;book kant 2 0;web a 9;web physics 10;web kant 99;");
        same("card", Bench.card(x, 0), "a is in doubt by 9");
        same("card", Bench.card(x, 1), "physics is law by 10");
        same("card", Bench.card(x, 2), "kant is dogma by 99");
        due("catalogue(2)", x.catalogue(2), 19);
        for (int wild : new int[] {Integer.MIN_VALUE, -1, 3, 8, Integer.MAX_VALUE}) {
            due("catalogue(" + wild + ")", x.catalogue(wild), -1);
            due("byteAt(" + wild + ")", wild == 3 || wild == 8 ? -1 : x.byteAt(wild), -1);
        }
        due("byteAt(0) of the latest that was", x.byteAt(0), 'k');
        due("byteAt(18)", x.byteAt(18), '9');
        due("byteAt(19)", x.byteAt(19), -1);
        x.ask(2);
        due("byteAt(18) stays", x.byteAt(18), '9');
        same("card", Bench.card(x, 2), "kant is in doubt by 0");
        due("library()", x.library(), 0);
        due("byteAt(0) stays", x.byteAt(0), 'k');
    }

    private static void odds() {
        BENCH.part("promise 33");
        String text = "book a 0 0;book b 1 0;law 20;draught 1;web b 40;";
        CobwebLibrary x = Bench.library(text);
        x.ask(1);
        int laws = 0;
        for (int k = 0; k < 30; k++) {
            CobwebLibrary y = Bench.library(text);
            y.ask(1);
            y.days(30, Integer.MAX_VALUE - 3 + k);
            laws += bookOr(y, 0, 3) > 0 ? 1 : 0;
        }
        due("odds(0, 30, ..)", x.odds(0, 30, Integer.MAX_VALUE - 3), laws);
        due("some, not all", laws > 0 && laws < 30 ? 1 : 0, 1);
        due("nothing is done by it", x.now(0), 0);
        CobwebLibrary calm = Bench.library("book a 0 0;book b 1 0;law 30;");
        due("30 days of growing", calm.odds(0, 7, -9), 7);
        due("one seed", calm.odds(0, 1, -9), 1);
        calm.ask(1);
        due("asked for: 29 days of growing", calm.odds(1, 7, -9), 0);
        CobwebLibrary late = Bench.library("book a 0 0;book b 1 0;law 29;");
        late.ask(1);
        due("asked for: 29 days of growing", late.odds(1, 7, -9), 7);
        CobwebLibrary last = lateLibrary("book a 0 0;law 10;", 391);
        last.ask(0);
        due("days that are left", last.odds(0, 3, 1), 0);
        for (int wild : new int[] {Integer.MIN_VALUE, -1, 2, 8, Integer.MAX_VALUE}) {
            due("odds(" + wild + ", 1, 1)", x.odds(wild, 1, 1), -1);
        }
        for (int wild : new int[] {Integer.MIN_VALUE, -1, 0, 31, Integer.MAX_VALUE}) {
            due("odds(0, " + wild + ", 1)", x.odds(0, wild, 1), -1);
        }
    }

    private static int lifeOf(CobwebLibrary x, int lives, String text) {
        Bench.feed(x, text);
        return x.life(lives);
    }

    private static void toldAll(CobwebLibrary x, int why, int right, int day, int laws) {
        due("told(0)", x.told(0), why);
        due("told(1)", x.told(1), right);
        due("told(2)", x.told(2), day);
        due("told(3)", x.told(3), laws);
        due("told(4)", x.told(4), -1);
        due("told(-1)", x.told(-1), -1);
    }

    private static void lives() {
        BENCH.part("promises 34, 35");
        CobwebLibrary x = Bench.library(FOUR);
        due("life(0)", lifeOf(x, 0, "ask kant;day 2;broom 0;move tao 1 1;day 10;"), -1);
        toldAll(x, 0, 5, 12, 15);
        due("now(0)", x.now(0), 0);
        due("now(6)", x.now(6), 0);
        due("the tape", x.count(7), 0);
        due("life(1)", lifeOf(x, 1, "day 1;ask work;"), -1);
        toldAll(x, 0, 2, 1, 3);
        due("now(0)", x.now(0), 1);
        due("book(2, 5)", bookOr(x, 2, 5), 1);
        Bench.feed(x, "day 1;");
        for (int wild : new int[] {Integer.MIN_VALUE, -1, 2, Integer.MAX_VALUE}) {
            due("life(" + wild + ")", x.life(wild), -1000);
            due("the tape stays", x.count(7), 6);
        }
        toldAll(x, 0, 2, 1, 3);
        due("life(0)", x.life(0), -1);
        due("an empty life", x.life(1), -1);
        toldAll(x, 0, 0, 1, 3);
        CobwebLibrary drawn = Bench.library("book a 0 0;book b 1 0;web a 60;web b 70;draught 6;");
        CobwebLibrary same = Bench.library("book a 0 0;book b 1 0;web a 60;web b 70;draught 6;");
        lifeOf(drawn, 1, "day 9;day 30;");
        same.days(9, 9);
        same.days(30, 30);
        due("days with their number as seed", drawn.now(4), same.now(4));
        due("days with their number as seed", drawn.now(5), same.now(5));
    }

    private static void wrongLives() {
        BENCH.part("promises 34, 35, wrong lines");
        CobwebLibrary x = Bench.library(FOUR);
        due("asked for twice", lifeOf(x, 0, "ask hume;ask kant;ask hume;day 1;"), 2);
        toldAll(x, 1, 2, 0, 0);
        due("nothing to sweep", lifeOf(x, 0, "broom 0;broom 0;"), 1);
        toldAll(x, 11, 1, 0, 0);
        due("no such row", lifeOf(x, 0, "broom 3;"), 0);
        toldAll(x, 19, 0, 0, 1);
        due("a book there", lifeOf(x, 0, "move hume 3 0;"), 0);
        toldAll(x, 21, 0, 0, 1);
        due("itself there", lifeOf(x, 0, "move hume 1 0;move hume 1 0;"), 1);
        toldAll(x, 21, 1, 0, 1);
        due("no such cell", lifeOf(x, 0, "move hume 4 0;"), 0);
        toldAll(x, 29, 0, 0, 1);
        due("no such cell", lifeOf(x, 0, "move hume 0 5;"), 0);
        toldAll(x, 29, 0, 0, 1);
        due("no such cell", lifeOf(x, 0, "move hume 5 0;"), 0);
        toldAll(x, 29, 0, 0, 1);
        due("no such row", lifeOf(x, 0, "broom 5;"), 0);
        toldAll(x, 19, 0, 0, 1);
        StringBuilder long400 = new StringBuilder();
        for (int k = 0; k < 13; k++) {
            long400.append("day 30;");
        }
        due("too many days", lifeOf(x, 1, long400 + "day 11;day 10;"), 13);
        toldAll(x, 31, 13, 390, 15);
        due("lived so far", x.now(0), 390);
        due("just the days left", lifeOf(x, 1, "day 10;"), -1);
        due("now(0)", x.now(0), 400);
        due("a fault leaves what was told", lifeOf(x, 1, "day 0;"), -6);
        toldAll(x, 0, 1, 400, 15);
    }

    private static void saidOf(CobwebLibrary x, String text, int... books) {
        Bench.feed(x, text);
        due("sentence of " + text, x.sentence() > 0 ? 1 : 0, 1);
        due("said(-1) of " + text, x.said(-1), books.length);
        for (int k = 0; k < books.length; k++) {
            due("said(" + k + ") of " + text, x.said(k), books[k]);
        }
        due("said behind all of " + text, x.said(books.length), -1);
        due("said(-2) of " + text, x.said(-2), -1);
    }

    private static void sentences() {
        BENCH.part("promises 36, 37");
        CobwebLibrary x = Bench.library(FOUR + "spin 1;");
        due("said(-1) without one", x.said(-1), -1);
        due("said(0) without one", x.said(0), -1);
        saidOf(x, "doubt", 1, 2, 3);
        saidOf(x, "lawful", 0);
        saidOf(x, "dogma");
        saidOf(x, "rare", 2);
        saidOf(x, "asked");
        saidOf(x, "follows hume", 0, 1, 3);
        saidOf(x, "follows work", 2);
        saidOf(x, "dust<9", 2, 3);
        saidOf(x, "dust=9", 1);
        saidOf(x, "dust>9", 0);
        saidOf(x, "bonds=1", 1, 3);
        saidOf(x, "bonds>1", 0);
        saidOf(x, "number<2", 0, 1);
        saidOf(x, "not rare", 0, 1, 3);
        saidOf(x, "rare or number=0 and dogma", 2);
        saidOf(x, "(rare or number=0) and lawful", 0);
        saidOf(x, "not rare and number>1", 3);
        saidOf(x, "not(rare and number>1)", 0, 1, 3);
        saidOf(x, "not not rare", 2);
        saidOf(x, "number=3 or number=1", 1, 3);
        saidOf(x, "asked or dogma");
        x.ask(3);
        due("said(0) now", x.said(0), 3);
        x.days(10, 1);
        due("said(-1) by what is so", x.said(-1), 1);
        due("said(0) by what is so", x.said(0), 0);
        due("library()", x.library(), 0);
        due("said(-1) of a new library", x.said(-1), -1);
        Bench.feed(x, "not rare");
        due("sentence() without books", x.sentence(), 2);
        due("said(-1) without books", x.said(-1), 0);
        due("said(0) without books", x.said(0), -1);
    }

    private static void images() {
        BENCH.part("promises 38, 39");
        CobwebLibrary x = Bench.library(FOUR);
        for (int wild : new int[] {Integer.MIN_VALUE, -1, 2, Integer.MAX_VALUE}) {
            due("image(" + wild + ")", x.image(wild) ? 1 : 0, 0);
            due("restore(" + wild + ")", x.restore(wild) ? 1 : 0, 0);
        }
        due("restore(0) of nothing", x.restore(0) ? 1 : 0, 0);
        saidOf(x, "lawful", 0);
        x.ask(1);
        due("image(0)", x.image(0) ? 1 : 0, 1);
        due("restore(1) of nothing", x.restore(1) ? 1 : 0, 0);
        due("undo() behind an image", x.undo(), 0);
        x.days(20, 1);
        Bench.feed(x, "book z 1 1;law 2;");
        due("library()", x.library(), 2);
        due("image(1)", x.image(1) ? 1 : 0, 1);
        x.catalogue(0);
        x.torn(0);
        x.days(1, 1);
        x.feed(1, 2, 3, 4, 5);
        due("restore(0)", x.restore(0) ? 1 : 0, 1);
        due("count(0)", x.count(0), 4);
        due("count(2)", x.count(2), 3);
        due("now(0)", x.now(0), 0);
        due("now(3)", x.now(3), 2);
        due("now(6)", x.now(6), 1);
        due("now(4)", x.now(4), 14);
        due("thread(0, 3)", x.thread(0, 3), 5);
        due("said(0)", x.said(0), 0);
        due("undo()", x.undo(), -1);
        due("the tape stays", x.count(7), 20);
        due("byteAt(0) stays", x.byteAt(0), 'z');
        due("steps() stays", x.steps(), 2);
        same("card", Bench.card(x, 3), "tao is in doubt by 0");
        x.ask(0);
        due("restore(1)", x.restore(1) ? 1 : 0, 1);
        due("count(0)", x.count(0), 1);
        due("count(3)", x.count(3), 2);
        due("said(-1)", x.said(-1), -1);
        due("now(0)", x.now(0), 0);
        due("restore(0) again", x.restore(0) ? 1 : 0, 1);
        due("now(3) as it was kept", x.now(3), 2);
        due("image(0) of another", x.ask(2) == 0 && x.image(0) ? 1 : 0, 1);
        x.restore(1);
        x.restore(0);
        due("now(3)", x.now(3), 6);
    }

    private static void counts() {
        BENCH.part("promise 40");
        CobwebLibrary x = Bench.library("shelves 5 6;law 7;spin 2;line 9;draught 3;book a 4 5;");
        x.feed(0, 0, 0, 0, 0);
        int[] counts = {1, 5, 6, 7, 2, 9, 3, 20};
        for (int what = 0; what < 8; what++) {
            due("count(" + what + ")", x.count(what), counts[what]);
        }
        for (int wild : new int[] {Integer.MIN_VALUE, -1, 8, Integer.MAX_VALUE}) {
            due("count(" + wild + ")", x.count(wild), -1);
        }
    }
}
