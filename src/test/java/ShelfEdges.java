/** Boundary cases of promises 6 to 15: what is so, acts, days, undoing. */
final class ShelfEdges {
    private static final String TWO = "book a 0 0;book b 1 0;";
    /** a and b in the first row, c under a, d alone. */
    private static final String FOUR = "book a 0 0;book b 3 0;book c 0 3;book d 2 2;web a 5;web d 7;thread a b 4;thread c d 6;";

    private ShelfEdges() {
    }

    private static CobwebLibrary eight() {
        return Edges.made("shelves 6 6;book a 0 0;book b 5 0;book c 0 5;book d 5 5;book e 2 2;book f 3 2;book g 2 3;book h 3 3;");
    }

    // ---- 6

    static void promise06_noSuchBook() {
        CobwebLibrary x = Edges.made(TWO);
        Edges.due("book(1, 0)", Edges.book(x, 1, 0), 1);
        Edges.due("book(-1, 0)", Edges.book(x, -1, 0), Edges.THROWN);
        Edges.due("book(2, 0)", Edges.book(x, 2, 0), Edges.THROWN);
        Edges.due("book(7, 0)", Edges.book(x, 7, 0), Edges.THROWN);
        Edges.due("book(8, 0)", Edges.book(x, 8, 0), Edges.THROWN);
        for (int b : Edges.FAR) {
            Edges.due("book(" + b + ", 0)", Edges.book(x, b, 0), Edges.THROWN);
        }
    }

    static void promise06_noSuchWhat() {
        CobwebLibrary x = Edges.made(TWO);
        Edges.due("book(0, 7)", Edges.book(x, 0, 7), 0);
        Edges.due("book(0, -1)", Edges.book(x, 0, -1), Edges.THROWN);
        Edges.due("book(0, 8)", Edges.book(x, 0, 8), Edges.THROWN);
        Edges.due("book(2, 8)", Edges.book(x, 2, 8), Edges.THROWN);
        for (int what : Edges.FAR) {
            Edges.due("book(0, " + what + ")", Edges.book(x, 0, what), Edges.THROWN);
        }
    }

    static void promise06_theEighthBook() {
        CobwebLibrary x = eight();
        Edges.due("book(7, 0)", Edges.book(x, 7, 0), 3);
        Edges.due("book(7, 1)", Edges.book(x, 7, 1), 3);
        Edges.due("book(8, 0)", Edges.book(x, 8, 0), Edges.THROWN);
    }

    static void promise06_aCallThatThrowsChangesNothing() {
        CobwebLibrary x = Edges.made(FOUR);
        x.ask(0);
        x.feed(0, 0, 0, 0, 0);
        String ahead = Edges.allOf(x);
        Edges.book(x, 4, 0);
        Edges.book(x, 0, 8);
        Edges.due("all", Edges.allOf(x), ahead);
        Edges.due("count(7)", x.count(7), 20);
        Edges.due("undo()", x.undo(), 0);
    }

    static void promise06_readsByLawAndTwiceThat() {
        CobwebLibrary x = Edges.made("law 7;book a 0 0;book b 1 0;book c 2 0;book d 3 0;book e 0 1;"
            + "web a 6;web b 7;web c 13;web d 14;web e 99;");
        int[] reads = {0, 1, 1, 2, 2};
        for (int b = 0; b < 5; b++) {
            Edges.due("book(" + b + ", 3)", Edges.book(x, b, 3), reads[b]);
        }
    }

    static void promise06_readsByTheLeastAndTheMostLaw() {
        CobwebLibrary least = Edges.made("law 1;book a 0 0;book b 1 0;book c 2 0;web b 1;web c 2;");
        Edges.due("web 0, law 1", Edges.book(least, 0, 3), 0);
        Edges.due("web 1, law 1", Edges.book(least, 1, 3), 1);
        Edges.due("web 2, law 1", Edges.book(least, 2, 3), 2);
        CobwebLibrary most = Edges.made("law 50;book a 0 0;book b 1 0;book c 2 0;web a 49;web b 50;web c 99;");
        Edges.due("web 49, law 50", Edges.book(most, 0, 3), 0);
        Edges.due("web 50, law 50", Edges.book(most, 1, 3), 1);
        Edges.due("web 99, law 50", Edges.book(most, 2, 3), 1);
        CobwebLibrary next = Edges.made("law 49;book a 0 0;book b 1 0;web a 97;web b 98;");
        Edges.due("web 97, law 49", Edges.book(next, 0, 3), 1);
        Edges.due("web 98, law 49", Edges.book(next, 1, 3), 2);
    }

    static void promise06_askedForToday() {
        CobwebLibrary x = Edges.made(TWO);
        Edges.due("book(0, 5)", Edges.book(x, 0, 5), 0);
        x.ask(0);
        Edges.due("book(0, 5)", Edges.book(x, 0, 5), 1);
        Edges.due("book(1, 5)", Edges.book(x, 1, 5), 0);
        x.days(1, 1);
        Edges.due("book(0, 5) the next day", Edges.book(x, 0, 5), 0);
    }

    static void promise06_askingsSoFar() {
        CobwebLibrary x = Edges.made(TWO);
        x.ask(0);
        x.ask(0);
        Edges.due("a refused asking is none", Edges.book(x, 0, 6), 1);
        x.days(1, 1);
        Edges.life(x, 1, "ask a;day 1;ask a;");
        Edges.due("askings of a life", Edges.book(x, 0, 6), 3);
        Edges.due("book(1, 6)", Edges.book(x, 1, 6), 0);
        x.undo();
        Edges.due("undone", Edges.book(x, 0, 6), 1);
    }

    static void promise06_linesAsThickAsToldAtLeast() {
        CobwebLibrary x = Edges.made(TWO + "book c 2 0;book d 3 0;line 5;thread a b 4;thread a c 5;thread d a 6;");
        Edges.due("book(0, 7)", Edges.book(x, 0, 7), 12);
        Edges.due("book(1, 7)", Edges.book(x, 1, 7), 0);
        Edges.due("book(2, 7)", Edges.book(x, 2, 7), 1);
        x.days(1, 1);
        Edges.due("a day later", Edges.book(x, 0, 7), 14);
    }

    static void promise06_linesOfTheLeastAndTheMost() {
        CobwebLibrary least = Edges.made(TWO + "book c 2 0;line 1;thread a b 1;");
        Edges.due("book(0, 7), line 1", Edges.book(least, 0, 7), 2);
        CobwebLibrary most = Edges.made(TWO + "book c 2 0;line 50;thread a b 50;thread a c 49;");
        Edges.due("book(0, 7), line 50", Edges.book(most, 0, 7), 2);
    }

    // ---- 7

    static void promise07_alike() {
        CobwebLibrary x = Edges.made(FOUR);
        for (int b = -1; b < 5; b++) {
            Edges.due("thread(" + b + ", " + b + ")", x.thread(b, b), -1);
        }
    }

    static void promise07_noSuchOnes() {
        CobwebLibrary x = Edges.made(FOUR);
        for (int b : new int[] {-1, 4, 7, 8, Integer.MIN_VALUE, Integer.MAX_VALUE}) {
            Edges.due("thread(0, " + b + ")", x.thread(0, b), -1);
            Edges.due("thread(" + b + ", 0)", x.thread(b, 0), -1);
        }
        Edges.due("thread(4, 5)", x.thread(4, 5), -1);
    }

    static void promise07_inWhateverOrder() {
        CobwebLibrary x = Edges.made(FOUR + "thread d a 99;");
        Edges.due("thread(0, 3)", x.thread(0, 3), 99);
        Edges.due("thread(3, 0)", x.thread(3, 0), 99);
        Edges.due("thread(1, 2)", x.thread(1, 2), 0);
    }

    static void promise07_neverAbove99() {
        CobwebLibrary x = Edges.made(TWO + "thread a b 98;");
        x.days(1, 1);
        Edges.due("thread(0, 1)", x.thread(0, 1), 99);
        x.days(1, 1);
        Edges.due("thread(0, 1)", x.thread(0, 1), 99);
    }

    // ---- 8

    static void promise08_noSuchOne() {
        CobwebLibrary x = Edges.made(FOUR);
        Edges.due("sight(-1)", x.sight(-1), -1);
        Edges.due("sight(4)", x.sight(4), -1);
        Edges.due("sight(8)", x.sight(8), -1);
        for (int b : Edges.FAR) {
            Edges.due("sight(" + b + ")", x.sight(b), -1);
        }
    }

    static void promise08_noneInSight() {
        CobwebLibrary x = Edges.made(FOUR);
        Edges.due("sight(3)", x.sight(3), 0);
        Edges.due("one book alone", Edges.made("book a 0 0;").sight(0), 0);
    }

    static void promise08_fromEndToEnd() {
        CobwebLibrary x = Edges.made(FOUR);
        Edges.due("sight(0)", x.sight(0), 6);
        Edges.due("sight(1)", x.sight(1), 1);
        Edges.due("sight(2)", x.sight(2), 1);
        Edges.due("corners of six by six", eight().sight(3), 6);
    }

    static void promise08_nextToOneAnother() {
        CobwebLibrary x = Edges.made("book a 1 1;book b 2 1;book c 1 2;book d 0 1;book e 1 0;book f 2 2;");
        Edges.due("sight(0)", x.sight(0), 30);
        Edges.due("sight(5)", x.sight(5), 6);
    }

    static void promise08_anotherBookBetween() {
        CobwebLibrary x = Edges.made("shelves 6 6;book a 0 2;book b 5 2;book c 3 2;book d 3 0;book e 3 5;book f 2 3;");
        Edges.due("sight(0)", x.sight(0), 4);
        Edges.due("sight(1)", x.sight(1), 4);
        Edges.due("sight(2)", x.sight(2), 27);
        Edges.due("sight(3)", x.sight(3), 4);
        CobwebLibrary first = Edges.made("book a 1 1;book b 0 1;book c 3 1;book d 1 0;book e 1 3;");
        Edges.due("the first book between", first.sight(1), 1);
        Edges.due("the first book between", first.sight(4), 1);
        x.move(2, 4, 4);
        Edges.due("sight(0) when it is gone", x.sight(0), 2);
        Edges.due("sight(3) when it is gone", x.sight(3), 16);
    }

    // ---- 9

    static void promise09_noSuchCell() {
        CobwebLibrary x = Edges.made("shelves 2 6;book a 1 5;book b 0 0;");
        Edges.due("at(1, 5)", x.at(1, 5), 0);
        Edges.due("at(2, 5)", x.at(2, 5), -1);
        Edges.due("at(1, 6)", x.at(1, 6), -1);
        Edges.due("at(-1, 0)", x.at(-1, 0), -1);
        Edges.due("at(0, -1)", x.at(0, -1), -1);
        Edges.due("at(6, 0)", x.at(6, 0), -1);
        for (int far : Edges.FAR) {
            Edges.due("at(" + far + ", 0)", x.at(far, 0), -1);
            Edges.due("at(0, " + far + ")", x.at(0, far), -1);
        }
    }

    static void promise09_noneInTheCell() {
        CobwebLibrary x = Edges.made("shelves 2 2;book a 1 1;");
        Edges.due("at(0, 0)", x.at(0, 0), -1);
        Edges.due("at(1, 0)", x.at(1, 0), -1);
        Edges.due("at(0, 1)", x.at(0, 1), -1);
        Edges.due("at(1, 1)", x.at(1, 1), 0);
        x.move(0, 0, 0);
        Edges.due("at(1, 1)", x.at(1, 1), -1);
        Edges.due("at(0, 0)", x.at(0, 0), 0);
    }

    static void promise09_theCornersOfSixBySix() {
        CobwebLibrary x = eight();
        Edges.due("at(0, 0)", x.at(0, 0), 0);
        Edges.due("at(5, 0)", x.at(5, 0), 1);
        Edges.due("at(0, 5)", x.at(0, 5), 2);
        Edges.due("at(5, 5)", x.at(5, 5), 3);
    }

    // ---- 10

    static void promise10_anotherWhat() {
        CobwebLibrary x = Edges.made(FOUR);
        Edges.due("now(-1)", x.now(-1), -1);
        Edges.due("now(7)", x.now(7), -1);
        for (int what : Edges.FAR) {
            Edges.due("now(" + what + ")", x.now(what), -1);
        }
    }

    static void promise10_theDayFromNoughtTo400() {
        CobwebLibrary x = Edges.late(TWO, 399);
        Edges.due("now(0)", x.now(0), 399);
        x.days(1, 1);
        Edges.due("now(0)", x.now(0), 400);
        x.days(1, 1);
        Edges.due("now(0)", x.now(0), 400);
        Edges.due("now(0) of a new one", Edges.made(TWO).now(0), 0);
    }

    static void promise10_lawAndDogmaApart() {
        CobwebLibrary x = Edges.made("law 5;book a 0 0;book b 1 0;book c 2 0;book d 3 0;web a 4;web b 5;web c 9;web d 10;");
        Edges.due("now(1)", x.now(1), 6);
        Edges.due("now(2)", x.now(2), 8);
    }

    static void promise10_allBits() {
        CobwebLibrary x = eight();
        for (int b = 0; b < 8; b++) {
            x.ask(b);
            Edges.due("now(3)", x.now(3), (2 << b) - 1);
            Edges.due("now(6)", x.now(6), b + 1);
        }
        x.days(1, 1);
        Edges.due("now(3) the next day", x.now(3), 0);
        Edges.due("now(6) the next day", x.now(6), 8);
    }

    static void promise10_sumsAtTheirMost() {
        StringBuilder text = new StringBuilder("shelves 6 6;");
        for (int b = 0; b < 8; b++) {
            text.append("book ").append((char) ('a' + b)).append(' ').append(b % 6).append(' ').append(b / 6).append(';');
        }
        for (int b = 0; b < 8; b++) {
            text.append("web ").append((char) ('a' + b)).append(" 99;");
        }
        for (int b = 0; b < 8; b++) {
            for (int a = 0; a < b; a++) {
                text.append("thread ").append((char) ('a' + a)).append(' ').append((char) ('a' + b)).append(" 99;");
            }
        }
        CobwebLibrary x = Edges.made(text.toString());
        Edges.due("now(4)", x.now(4), 792);
        Edges.due("now(5)", x.now(5), 2772);
        x.days(1, 1);
        Edges.due("now(4)", x.now(4), 792);
        Edges.due("now(5)", x.now(5), 2772);
    }

    // ---- 11

    static void promise11_noSuchOne() {
        CobwebLibrary x = Edges.made(TWO);
        for (int b : new int[] {-1, 2, 7, 8, 32, Integer.MIN_VALUE, Integer.MAX_VALUE}) {
            Edges.due("ask(" + b + ")", x.ask(b), -1);
        }
        Edges.due("now(6)", x.now(6), 0);
        Edges.due("undo()", x.undo(), -1);
    }

    static void promise11_askedForToday() {
        CobwebLibrary x = Edges.made(FOUR);
        Edges.due("ask(0)", x.ask(0), 0);
        String ahead = Edges.allOf(x);
        Edges.due("ask(0)", x.ask(0), 1);
        Edges.due("all stays", Edges.allOf(x), ahead);
        Edges.due("undo() of the one that was done", x.undo(), 0);
        Edges.due("ask(0) undone, then again", x.ask(0), 0);
        x.days(1, 1);
        Edges.due("ask(0) the next day", x.ask(0), 0);
    }

    static void promise11_itsWebAndThreadsAreNought() {
        CobwebLibrary x = Edges.made(FOUR + "thread a d 9;");
        x.ask(0);
        Edges.due("book(0, 2)", Edges.book(x, 0, 2), 0);
        Edges.due("thread(0, 1)", x.thread(0, 1), 0);
        Edges.due("thread(0, 3)", x.thread(0, 3), 0);
        Edges.due("thread(2, 3)", x.thread(2, 3), 6);
        Edges.due("book(3, 2)", Edges.book(x, 3, 2), 7);
    }

    static void promise11_withNoWebAndNoThread() {
        CobwebLibrary x = Edges.made(TWO);
        Edges.due("ask(1)", x.ask(1), 0);
        Edges.due("book(1, 6)", Edges.book(x, 1, 6), 1);
        Edges.due("undo()", x.undo(), 0);
    }

    static void promise11_whenAllDaysAreOver() {
        CobwebLibrary x = Edges.late(TWO, 400);
        Edges.due("ask(0)", x.ask(0), 0);
        Edges.due("ask(0)", x.ask(0), 1);
        Edges.due("book(0, 2)", Edges.book(x, 0, 2), 0);
    }

    // ---- 12

    static void promise12_noSuchRow() {
        CobwebLibrary x = Edges.made("shelves 6 2;book a 0 0;book b 5 1;web b 9;");
        Edges.due("broom(2)", x.broom(2), -1);
        Edges.due("broom(-1)", x.broom(-1), -1);
        Edges.due("broom(5)", x.broom(5), -1);
        for (int y : Edges.FAR) {
            Edges.due("broom(" + y + ")", x.broom(y), -1);
        }
        Edges.due("undo()", x.undo(), -1);
        Edges.due("broom(1)", x.broom(1), 0);
    }

    static void promise12_theLastOfSixRows() {
        CobwebLibrary x = Edges.made("shelves 2 6;book a 1 5;web a 1;");
        Edges.due("broom(5)", x.broom(5), 0);
        Edges.due("broom(6)", x.broom(6), -1);
    }

    static void promise12_noBookInTheRow() {
        CobwebLibrary x = Edges.made(FOUR);
        Edges.due("broom(1)", x.broom(1), 1);
        Edges.due("undo()", x.undo(), -1);
    }

    static void promise12_noWebAndNoThreadInTheRow() {
        CobwebLibrary x = Edges.made(FOUR);
        Edges.due("broom(0)", x.broom(0), 0);
        String ahead = Edges.allOf(x);
        Edges.due("broom(0)", x.broom(0), 1);
        Edges.due("all stays", Edges.allOf(x), ahead);
        Edges.due("undo()", x.undo(), 0);
    }

    static void promise12_aWebAlone() {
        CobwebLibrary x = Edges.made(TWO + "web b 1;");
        Edges.due("broom(0)", x.broom(0), 0);
        Edges.due("now(4)", x.now(4), 0);
    }

    static void promise12_aThreadAlone() {
        CobwebLibrary x = Edges.made("book a 0 0;book b 0 1;thread a b 1;");
        Edges.due("broom(1)", x.broom(1), 0);
        Edges.due("now(5)", x.now(5), 0);
        Edges.due("broom(0)", x.broom(0), 1);
    }

    static void promise12_eightBooks() {
        CobwebLibrary x = eight();
        Edges.due("broom(3): the eighth book, no web, no thread", x.broom(3), 1);
        CobwebLibrary y = Edges.made("shelves 2 4;book a 0 0;book b 1 0;book c 0 1;book d 1 1;book e 0 2;book f 1 2;book g 0 3;"
            + "book h 1 3;thread h a 1;");
        Edges.due("broom(3): the eighth book's thread", y.broom(3), 0);
        Edges.due("now(5)", y.now(5), 0);
        Edges.due("broom(0)", y.broom(0), 1);
        Edges.due("broom(3)", y.broom(3), 1);
    }

    static void promise12_otherRowsStay() {
        CobwebLibrary x = Edges.made(FOUR);
        x.broom(0);
        Edges.due("book(0, 2)", Edges.book(x, 0, 2), 0);
        Edges.due("book(3, 2)", Edges.book(x, 3, 2), 7);
        Edges.due("thread(0, 1)", x.thread(0, 1), 0);
        Edges.due("thread(2, 3)", x.thread(2, 3), 6);
    }

    static void promise12_nothingIsAskedFor() {
        CobwebLibrary x = Edges.made(FOUR);
        x.broom(0);
        Edges.due("now(3)", x.now(3), 0);
        Edges.due("now(6)", x.now(6), 0);
        Edges.due("ask(0)", x.ask(0), 0);
    }

    // ---- 13

    static void promise13_noSuchBook() {
        CobwebLibrary x = Edges.made(FOUR);
        for (int b : new int[] {-1, 4, 8, Integer.MIN_VALUE, Integer.MAX_VALUE}) {
            Edges.due("move(" + b + ", 1, 1)", x.move(b, 1, 1), -1);
        }
        Edges.due("undo()", x.undo(), -1);
    }

    static void promise13_noSuchCell() {
        CobwebLibrary x = Edges.made("shelves 5 3;book a 0 0;web a 9;");
        Edges.due("move(0, 5, 0)", x.move(0, 5, 0), -1);
        Edges.due("move(0, 0, 3)", x.move(0, 0, 3), -1);
        Edges.due("move(0, -1, 0)", x.move(0, -1, 0), -1);
        Edges.due("move(0, 0, -1)", x.move(0, 0, -1), -1);
        for (int far : Edges.FAR) {
            Edges.due("move(0, " + far + ", 0)", x.move(0, far, 0), -1);
            Edges.due("move(0, 0, " + far + ")", x.move(0, 0, far), -1);
        }
        Edges.due("at(0, 0)", x.at(0, 0), 0);
        Edges.due("undo()", x.undo(), -1);
        Edges.due("move(0, 4, 2)", x.move(0, 4, 2), 0);
    }

    static void promise13_thereIsABook() {
        CobwebLibrary x = Edges.made(FOUR);
        String ahead = Edges.allOf(x);
        Edges.due("move(0, 3, 0)", x.move(0, 3, 0), 1);
        Edges.due("move(0, 0, 0): itself", x.move(0, 0, 0), 1);
        Edges.due("all stays", Edges.allOf(x), ahead);
        Edges.due("undo()", x.undo(), -1);
    }

    static void promise13_itsThreadsAreNought() {
        CobwebLibrary x = Edges.made(FOUR);
        Edges.due("move(0, 1, 1)", x.move(0, 1, 1), 0);
        Edges.due("thread(0, 1)", x.thread(0, 1), 0);
        Edges.due("thread(2, 3)", x.thread(2, 3), 6);
    }

    static void promise13_itsWebGoesWithIt() {
        CobwebLibrary x = Edges.made(FOUR);
        x.move(0, 1, 1);
        Edges.due("book(0, 0)", Edges.book(x, 0, 0), 1);
        Edges.due("book(0, 1)", Edges.book(x, 0, 1), 1);
        Edges.due("book(0, 2)", Edges.book(x, 0, 2), 5);
    }

    static void promise13_itIsNotAskedFor() {
        CobwebLibrary x = Edges.made(FOUR);
        x.move(0, 1, 1);
        Edges.due("now(3)", x.now(3), 0);
        Edges.due("now(6)", x.now(6), 0);
        x.ask(1);
        Edges.due("asked for, it may be moved", x.move(1, 2, 1), 0);
        Edges.due("and was asked for today", Edges.book(x, 1, 5), 1);
    }

    // ---- 14

    static void promise14_notAsTold() {
        CobwebLibrary x = Edges.made(FOUR);
        String ahead = Edges.allOf(x);
        Edges.due("days(0, 1)", x.days(0, 1), -1);
        Edges.due("days(-1, 1)", x.days(-1, 1), -1);
        Edges.due("days(31, 1)", x.days(31, 1), -1);
        for (int n : Edges.FAR) {
            Edges.due("days(" + n + ", 1)", x.days(n, 1), -1);
        }
        Edges.due("all stays", Edges.allOf(x), ahead);
        Edges.due("undo()", x.undo(), -1);
    }

    static void promise14_oneAndThirty() {
        CobwebLibrary x = Edges.made(FOUR);
        Edges.due("days(1, 1)", x.days(1, 1), 1);
        Edges.due("days(30, 1)", x.days(30, 1), 30);
        Edges.due("now(0)", x.now(0), 31);
    }

    static void promise14_fewerAreLeft() {
        CobwebLibrary x = Edges.late("book a 0 0;web a 1;", 399);
        Edges.due("days(30, 1)", x.days(30, 1), 1);
        Edges.due("now(0)", x.now(0), 400);
        CobwebLibrary y = Edges.late("book a 0 0;", 371);
        y.ask(0);
        Edges.due("days(30, 1)", y.days(30, 1), 29);
        Edges.due("book(0, 2)", Edges.book(y, 0, 2), 28);
        CobwebLibrary z = Edges.late("book a 0 0;", 370);
        Edges.due("days(30, 1)", z.days(30, 1), 30);
    }

    static void promise14_allAreOver() {
        CobwebLibrary x = Edges.late("book a 0 0;", 400);
        x.ask(0);
        String ahead = Edges.allOf(x);
        Edges.due("days(1, 1)", x.days(1, 1), 0);
        Edges.due("days(30, 1)", x.days(30, 1), 0);
        Edges.due("days(31, 1)", x.days(31, 1), -1);
        Edges.due("all stays", Edges.allOf(x), ahead);
    }

    static void promise14_noWebAbove99() {
        for (int spin = 1; spin <= 5; spin++) {
            CobwebLibrary x = Edges.made("book a 0 0;book b 1 1;book c 2 2;web a 99;web b 98;web c 94;spin " + spin + ";");
            x.days(1, 1);
            Edges.due("web 99", Edges.book(x, 0, 2), 99);
            Edges.due("web 98", Edges.book(x, 1, 2), 99);
            Edges.due("web 94", Edges.book(x, 2, 2), 94 + spin);
        }
    }

    static void promise14_whatWasAskedForDoesNotGrow() {
        CobwebLibrary x = Edges.made("book a 0 0;book b 1 0;book c 2 0;spin 3;");
        x.ask(1);
        x.days(1, 1);
        Edges.due("book(1, 2)", Edges.book(x, 1, 2), 0);
        Edges.due("book(0, 2)", Edges.book(x, 0, 2), 3);
        Edges.due("thread(0, 1)", x.thread(0, 1), 0);
        Edges.due("thread(1, 2)", x.thread(1, 2), 0);
        Edges.due("thread(0, 2): b is between", x.thread(0, 2), 0);
        x.days(1, 1);
        Edges.due("book(1, 2)", Edges.book(x, 1, 2), 3);
        Edges.due("thread(0, 1)", x.thread(0, 1), 1);
    }

    static void promise14_withoutBooks() {
        CobwebLibrary x = Edges.made("draught 12;");
        Edges.due("days(30, 1)", x.days(30, 1), 30);
        Edges.due("days(1, -7)", x.days(1, -7), 1);
        Edges.due("now(0)", x.now(0), 31);
    }

    /** The draws of a run of days, made here once more: webs of two books in no row and no column. */
    private static void drawn(int draught, int n, int seed) {
        CobwebLibrary x = Edges.made("book a 0 0;book b 1 1;book c 2 2;web a 80;web b 90;thread a b 40;spin 2;draught " + draught + ";");
        int[] webs = {80, 90, 0};
        int thread = 40;
        int drawn = seed;
        for (int day = 0; day < n; day++) {
            for (int b = 0; b < 3; b++) {
                webs[b] = Math.min(99, webs[b] + 2);
            }
            drawn = drawn * 1103515245 + 12345;
            if ((drawn >>> 8) % 12 < draught) {
                drawn = drawn * 1103515245 + 12345;
                int b = (drawn >>> 8) % 3;
                webs[b] /= 2;
                thread = b < 2 ? 0 : thread;
            }
        }
        x.days(n, seed);
        for (int b = 0; b < 3; b++) {
            Edges.due("book(" + b + ", 2) by " + draught + ", " + n + ", " + seed, Edges.book(x, b, 2), webs[b]);
        }
        Edges.due("thread(0, 1) by " + draught + ", " + n + ", " + seed, x.thread(0, 1), thread);
    }

    static void promise14_drawsOfSeedsThatWrapAround() {
        int[] seeds = {0, 1, -1, 7, -12345, 1 << 30, Integer.MAX_VALUE, Integer.MIN_VALUE, Integer.MAX_VALUE - 1};
        for (int seed : seeds) {
            drawn(5, 1, seed);
            drawn(5, 2, seed);
            drawn(5, 30, seed);
        }
    }

    static void promise14_draughtsBelowTheNumberTold() {
        for (int draught = 0; draught <= 12; draught++) {
            drawn(draught, 1, 99);
            drawn(draught, 12, 4321);
        }
    }

    static void promise14_daysGoOnWithTheSeedOfOneCallAlone() {
        String text = "book a 0 0;book b 1 1;web a 90;web b 80;draught 7;";
        CobwebLibrary together = Edges.made(text);
        CobwebLibrary apart = Edges.made(text);
        together.days(2, 5);
        apart.days(1, 5);
        int drawn = 5 * 1103515245 + 12345;
        boolean isBlown = (drawn >>> 8) % 12 < 7;
        drawn = isBlown ? drawn * 1103515245 + 12345 : drawn;
        apart.days(1, drawn);
        Edges.due("all", Edges.allOf(together), Edges.allOf(apart));
    }

    static void promise14_halfOfAWebIsCut() {
        for (int web = 1; web <= 99; web += 7) {
            CobwebLibrary x = Edges.made("book a 0 0;draught 12;web a " + web + ";");
            x.days(1, web);
            Edges.due("web " + web, Edges.book(x, 0, 2), Math.min(99, web + 1) / 2);
        }
        CobwebLibrary none = Edges.made("book a 0 0;draught 12;");
        none.ask(0);
        none.days(1, 1);
        Edges.due("half of nought", Edges.book(none, 0, 2), 0);
    }

    static void promise14_theNextDayNothingWasAskedFor() {
        CobwebLibrary x = Edges.made(TWO);
        x.ask(0);
        x.ask(1);
        x.days(1, 1);
        Edges.due("now(3)", x.now(3), 0);
        Edges.due("ask(1)", x.ask(1), 0);
    }

    // ---- 15

    static void promise15_noneIs() {
        CobwebLibrary x = Edges.made(FOUR);
        String ahead = Edges.allOf(x);
        Edges.due("undo()", x.undo(), -1);
        Edges.due("undo()", x.undo(), -1);
        Edges.due("all stays", Edges.allOf(x), ahead);
    }

    static void promise15_eachActAlone() {
        CobwebLibrary x = Edges.made(FOUR);
        String ahead = Edges.allOf(x);
        x.ask(0);
        Edges.due("undo() of ask()", x.undo(), 0);
        Edges.due("all as ahead of ask()", Edges.allOf(x), ahead);
        x.broom(0);
        Edges.due("undo() of broom()", x.undo(), 0);
        Edges.due("all as ahead of broom()", Edges.allOf(x), ahead);
        x.move(0, 1, 1);
        Edges.due("undo() of move()", x.undo(), 0);
        Edges.due("all as ahead of move()", Edges.allOf(x), ahead);
        x.days(30, 1);
        Edges.due("undo() of days()", x.undo(), 0);
        Edges.due("all as ahead of days()", Edges.allOf(x), ahead);
        Edges.life(x, 1, "ask a;broom 3;move d 1 1;day 9;ask a;");
        Edges.due("undo() of a life", x.undo(), 0);
        Edges.due("all as ahead of a life", Edges.allOf(x), ahead);
        Edges.due("undo()", x.undo(), -1);
    }

    static void promise15_whatWasNotDoneIsNotUndone() {
        CobwebLibrary x = Edges.made(FOUR);
        x.ask(0);
        x.ask(0);
        x.ask(9);
        x.broom(1);
        x.broom(9);
        x.move(1, 0, 0);
        x.move(1, 9, 9);
        x.days(0, 1);
        x.days(31, 1);
        Edges.life(x, 0, "day 1;");
        Edges.life(x, 1, "day 0;");
        Edges.life(x, 2, "day 1;");
        x.sentence();
        x.library();
        Edges.library(x, FOUR);
        x.ask(0);
        x.ask(0);
        x.broom(1);
        x.move(1, 0, 0);
        x.days(0, 1);
        Edges.life(x, 0, "day 1;");
        Edges.life(x, 1, "day 0;");
        Edges.due("undo()", x.undo(), 0);
        Edges.due("now(6)", x.now(6), 0);
        Edges.due("undo()", x.undo(), -1);
    }

    static void promise15_daysOfNought() {
        CobwebLibrary x = Edges.late(FOUR, 400);
        x.ask(0);
        Edges.due("days(1, 1)", x.days(1, 1), 0);
        Edges.due("undo()", x.undo(), 0);
        Edges.due("now(3)", x.now(3), 0);
        Edges.due("undo()", x.undo(), -1);
    }

    static void promise15_daysOfWhichFewerWent() {
        CobwebLibrary x = Edges.late(FOUR, 398);
        Edges.due("days(30, 1)", x.days(30, 1), 2);
        Edges.due("undo()", x.undo(), 0);
        Edges.due("now(0)", x.now(0), 398);
    }

    static void promise15_eightAreKept() {
        CobwebLibrary x = Edges.made(FOUR);
        for (int k = 0; k < 8; k++) {
            x.days(1, 1);
        }
        for (int left = 7; left >= 0; left--) {
            Edges.due("undo()", x.undo(), left);
            Edges.due("now(0)", x.now(0), left);
        }
        Edges.due("undo()", x.undo(), -1);
    }

    static void promise15_aNinthPushesTheFirstOut() {
        for (int acts = 9; acts <= 20; acts++) {
            CobwebLibrary x = Edges.made(FOUR);
            for (int k = 0; k < acts; k++) {
                x.days(1, 1);
            }
            for (int left = 7; left >= 0; left--) {
                Edges.due("undo()", x.undo(), left);
            }
            Edges.due("undo()", x.undo(), -1);
            Edges.due("now(0)", x.now(0), acts - 8);
        }
    }

    static void promise15_actsBehindAnUndo() {
        CobwebLibrary x = Edges.made(FOUR);
        for (int k = 0; k < 10; k++) {
            x.days(2, 1);
        }
        x.undo();
        x.undo();
        Edges.due("now(0)", x.now(0), 16);
        x.days(1, 1);
        Edges.due("now(0)", x.now(0), 17);
        Edges.due("undo()", x.undo(), 6);
        Edges.due("now(0)", x.now(0), 16);
        for (int k = 0; k < 3; k++) {
            x.days(1, 1);
        }
        Edges.due("undo() of a full row", x.undo(), 7);
        Edges.due("now(0)", x.now(0), 18);
    }

    static void promise15_anUndoIsNotUndone() {
        CobwebLibrary x = Edges.made(FOUR);
        x.ask(0);
        x.undo();
        Edges.due("undo()", x.undo(), -1);
        Edges.due("now(6)", x.now(6), 0);
    }

    static void promise15_aLifeIsUndoneAsOne() {
        CobwebLibrary x = Edges.made(FOUR);
        x.ask(1);
        Edges.due("life(1)", Edges.life(x, 1, "day 3;ask a;day 2;"), -1);
        Edges.due("undo()", x.undo(), 1);
        Edges.due("now(0)", x.now(0), 0);
        Edges.due("now(3)", x.now(3), 2);
    }

    static void promise15_aLifeThatWentWrong() {
        CobwebLibrary x = Edges.made(FOUR);
        Edges.due("life(1)", Edges.life(x, 1, "day 3;broom 5;day 2;"), 1);
        Edges.due("now(0)", x.now(0), 3);
        Edges.due("undo()", x.undo(), 0);
        Edges.due("now(0)", x.now(0), 0);
    }

    /** It was lived, as far as it is not wrong: the document asks for no more. */
    static void promise15_aLifeOfWhichNothingWent() {
        CobwebLibrary x = Edges.made(FOUR);
        x.ask(0);
        x.life(1);
        Edges.due("undo() of an empty life", x.undo(), 1);
        Edges.due("now(6)", x.now(6), 1);
        Edges.life(x, 1, "ask a;day 1;");
        Edges.due("undo() of a life that is wrong at once", x.undo(), 1);
        Edges.due("undo() of the asking", x.undo(), 0);
        Edges.due("now(6)", x.now(6), 0);
    }

    static void promise15_theTapeAndTheSentenceStay() {
        CobwebLibrary x = Edges.made(FOUR);
        x.ask(0);
        Edges.sentence(x, "number > 0");
        x.feed(0, 0, 0, 0, 0);
        x.undo();
        Edges.due("count(7)", x.count(7), 20);
        Edges.due("said(-1)", x.said(-1), 3);
    }

    static void promise15_behindANewLibraryNoneIs() {
        CobwebLibrary x = Edges.made(FOUR);
        x.ask(0);
        Edges.library(x, FOUR);
        Edges.due("undo()", x.undo(), -1);
    }
}
