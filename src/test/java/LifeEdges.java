/** Boundary cases of promises 34 and 35: a life judged or lived, its faults, what was wrong in it. */
final class LifeEdges {
    private static final String TWO = "book a 0 0;book b 1 0;web a 5;web b 12;thread a b 2;";

    private LifeEdges() {
    }

    /** A text with a fault is neither judged nor lived, and leaves what was told. */
    private static void faulty(String text, int place, int kind) {
        CobwebLibrary x = Edges.made(TWO);
        Edges.life(x, 0, "day 7;");
        for (int lives = 0; lives <= 1; lives++) {
            Edges.due("life of '" + text + "'", Edges.life(x, lives, text), -2 - place);
            Edges.due("fault of '" + text + "'", x.fault(), kind);
            Edges.due("count(7)", x.count(7), 0);
            Edges.due("now(0)", x.now(0), 0);
            Edges.due("told(2)", x.told(2), 7);
        }
        Edges.due("undo()", x.undo(), -1);
    }

    private static void fine(String text) {
        CobwebLibrary x = Edges.made(TWO);
        Edges.life(x, 0, text);
        Edges.due("fault of '" + text + "'", x.fault(), 0);
    }

    private static void told(CobwebLibrary x, int why, int right, int day, int laws) {
        Edges.due("told(0)", x.told(0), why);
        Edges.due("told(1)", x.told(1), right);
        Edges.due("told(2)", x.told(2), day);
        Edges.due("told(3)", x.told(3), laws);
    }

    // ---- lives

    static void promise34_anotherLives() {
        CobwebLibrary x = Edges.made(TWO);
        Bench.feed(x, "day 1;");
        for (int lives : new int[] {-1, 2, 3, Integer.MIN_VALUE, Integer.MAX_VALUE}) {
            Edges.due("life(" + lives + ")", x.life(lives), -1000);
            Edges.due("count(7)", x.count(7), 6);
        }
        Edges.due("told(0)", x.told(0), -1);
        Edges.due("now(0)", x.now(0), 0);
        Edges.due("undo()", x.undo(), -1);
        Edges.due("life(1) of the tape that stayed", x.life(1), -1);
        Edges.due("now(0)", x.now(0), 1);
    }

    static void promise34_judgedAllStaysAsItIs() {
        CobwebLibrary x = Edges.made(TWO);
        x.ask(1);
        String ahead = Edges.allOf(x);
        Edges.due("life(0)", Edges.life(x, 0, "ask a;day 30;broom 0;move a 3 3;day 4;"), -1);
        Edges.due("life(0), wrong", Edges.life(x, 0, "ask a;day 30;ask a;ask a;"), 3);
        Edges.due("all", Edges.allOf(x), ahead);
        Edges.due("undo()", x.undo(), 0);
    }

    static void promise34_livedAsFarAsItIsNotWrong() {
        CobwebLibrary x = Edges.made(TWO);
        Edges.due("life(1)", Edges.life(x, 1, "ask a;day 2;ask a;ask a;day 5;"), 3);
        Edges.due("now(0)", x.now(0), 2);
        Edges.due("now(3)", x.now(3), 1);
        Edges.due("now(6)", x.now(6), 2);
        Edges.due("book(1, 2)", Edges.book(x, 1, 2), 14);
    }

    static void promise34_wrongInItsFirstLine() {
        CobwebLibrary x = Edges.made(TWO);
        String ahead = Edges.allOf(x);
        Edges.due("life(1)", Edges.life(x, 1, "move a 1 0;day 1;"), 0);
        Edges.due("all", Edges.allOf(x), ahead);
    }

    static void promise34_noLines() {
        CobwebLibrary x = Edges.made(TWO);
        String ahead = Edges.allOf(x);
        Edges.due("life(0)", x.life(0), -1);
        Edges.due("life(1)", x.life(1), -1);
        Edges.due("life(0) of blanks", Edges.life(x, 0, " \n"), -1);
        Edges.due("fault()", x.fault(), 0);
        Edges.due("all", Edges.allOf(x), ahead);
    }

    static void promise34_theSameAsTheCalls() {
        String text = "book a 0 0;book b 1 0;book c 3 3;web a 60;web b 70;thread a b 9;draught 8;spin 2;";
        CobwebLibrary x = Edges.made(text);
        CobwebLibrary y = Edges.made(text);
        Edges.life(x, 1, "day 30;ask b;broom 3;day 1;move a 2 2;day 17;");
        y.days(30, 30);
        y.ask(1);
        y.broom(3);
        y.days(1, 1);
        y.move(0, 2, 2);
        y.days(17, 17);
        Edges.due("all", Edges.allOf(x), Edges.allOf(y));
    }

    static void promise34_withoutBooks() {
        CobwebLibrary x = new CobwebLibrary();
        Edges.due("life(1)", Edges.life(x, 1, "day 30;day 1;"), -1);
        Edges.due("now(0)", x.now(0), 31);
        Edges.due("life(0)", Edges.life(x, 0, "ask a;"), -6);
    }

    // ---- the text

    static void promise34_aFaultAtPlaceNoughtAnswersMinusTwo() {
        faulty(";", 0, 1);
        faulty("?", 0, 1);
        faulty("a;", 0, 1);
        faulty("law 7;", 0, 1);
        faulty("rare;", 0, 1);
        faulty("7;", 0, 1);
    }

    static void promise34_asManyAs400Bytes() {
        fine(Bench.padded("day 1;", 400));
        fine(Bench.padded("day 1;", 394) + "day 2;");
    }

    static void promise34_moreThan400Bytes() {
        faulty(Bench.padded("day 1;", 401), 400, 1);
        faulty(Bench.padded("day 1;", 940), 400, 1);
        faulty(Bench.padded("day 1;", 395) + "day 2;", 400, 1);
        faulty(Bench.padded("day 31;", 500), 4, 2);
        faulty(Bench.padded("day 1;", 399) + "day 2;", 400, 1);
        faulty(Bench.padded("day 1;", 399) + "days", 399, 1);
        faulty(Bench.padded("day ", 399) + "31;", 399, 2);
        faulty(Bench.padded("ask ", 399) + "bb;", 399, 3);
        faulty(Bench.padded("day 1;", 400) + "?", 400, 1);
    }

    static void promise34_theEndIsWhereTheBytesEnd() {
        faulty("ask", 3, 1);
        faulty("ask a", 5, 1);
        faulty("ask a \n", 7, 1);
        faulty("day 1;move b 3", 14, 1);
    }

    static void promise34_fortyLinesAtMost() {
        String forty = "day 1;".repeat(40);
        CobwebLibrary x = Edges.made(TWO);
        Edges.due("life(1)", Edges.life(x, 1, forty), -1);
        Edges.due("told(1)", x.told(1), 40);
        Edges.due("now(0)", x.now(0), 40);
        faulty(forty + "day 1;", 240, 4);
        faulty(forty + "ask", 240, 4);
        faulty(forty + "ask qq;", 240, 4);
        faulty(forty + "a;", 240, 1);
        faulty(forty + ";", 240, 1);
        faulty(forty + "  move", 242, 4);
    }

    static void promise34_broomsFromNoughtTo5() {
        fine("broom 0;");
        fine("broom 5;");
        faulty("broom 6;", 6, 2);
        faulty("broom 999;", 6, 2);
        faulty("broom a;", 6, 1);
        faulty("broom;", 5, 1);
    }

    static void promise34_movesFromNoughtTo5Each() {
        fine("move a 0 5;");
        fine("move a 5 0;");
        faulty("move a 6 0;", 7, 2);
        faulty("move a 0 6;", 9, 2);
        faulty("move a 0;", 8, 1);
        faulty("move 0 0;", 5, 1);
        faulty("move a 0 0 0;", 11, 1);
    }

    static void promise34_daysFromOneTo30() {
        fine("day 1;");
        fine("day 30;");
        fine("day 030;");
        faulty("day 0;", 4, 2);
        faulty("day 31;", 4, 2);
        faulty("day 1000;", 4, 1);
        faulty("day;", 3, 1);
    }

    static void promise34_booksThatWereNotTold() {
        faulty("ask c;", 4, 3);
        faulty("ask aa;", 4, 3);
        faulty("move c 0 0;", 5, 3);
        faulty("ask day;", 4, 1);
        faulty("ask rare;", 4, 1);
        faulty("ask 0;", 4, 1);
        faulty("day 1;ask c;?", 10, 3);
    }

    static void promise34_bytesThatAreNoTokens() {
        for (int sign : new int[] {0, 1, 2, 9, 13, '.', ',', 'A', 'Z', 127, 128, 160, 255}) {
            faulty("" + (char) sign, 0, 1);
            faulty("day 1;" + (char) sign, 6, 1);
            faulty("day " + (char) sign + ";", 4, 1);
            faulty("ask " + (char) sign + ";", 4, 1);
        }
    }

    static void promise34_theTapeIsEmptyThen() {
        CobwebLibrary x = Edges.made(TWO);
        Edges.life(x, 0, "day 1;");
        Edges.due("count(7) behind life(0)", x.count(7), 0);
        Edges.life(x, 1, "ask a;ask a;");
        Edges.due("count(7) behind a wrong one", x.count(7), 0);
    }

    // ---- what was told

    static void promise35_aheadOfAny() {
        CobwebLibrary x = Edges.made(TWO);
        told(x, -1, -1, -1, -1);
        Edges.life(x, 1, "day 0;");
        Edges.life(x, 2, "day 1;");
        told(x, -1, -1, -1, -1);
    }

    static void promise35_anotherWhat() {
        CobwebLibrary x = Edges.made(TWO);
        x.life(0);
        Edges.due("told(-1)", x.told(-1), -1);
        Edges.due("told(4)", x.told(4), -1);
        for (int what : Edges.FAR) {
            Edges.due("told(" + what + ")", x.told(what), -1);
        }
    }

    static void promise35_itWasNotWrong() {
        CobwebLibrary x = Edges.made(TWO);
        Edges.life(x, 0, "day 4;day 1;");
        told(x, 0, 2, 5, 3);
        x.life(0);
        told(x, 0, 0, 0, 2);
    }

    static void promise35_wrongInAsking() {
        CobwebLibrary x = Edges.made(TWO);
        x.ask(0);
        Edges.due("life(0)", Edges.life(x, 0, "ask b;ask a;day 1;"), 1);
        told(x, 1, 1, 0, 0);
        Edges.due("life(0)", Edges.life(x, 0, "day 1;ask a;ask b;ask b;"), 3);
        told(x, 1, 3, 1, 0);
    }

    static void promise35_wrongInSweeping() {
        CobwebLibrary x = Edges.made(TWO);
        Edges.due("a row without books", Edges.life(x, 0, "broom 3;"), 0);
        told(x, 11, 0, 0, 2);
        Edges.due("a row that was swept", Edges.life(x, 0, "broom 0;broom 0;"), 1);
        told(x, 11, 1, 0, 0);
    }

    static void promise35_noSuchRow() {
        CobwebLibrary x = Edges.made("shelves 6 2;book a 0 0;web a 30;");
        Edges.due("row 1", Edges.life(x, 0, "broom 1;"), 0);
        told(x, 11, 0, 0, 1);
        Edges.due("row 2", Edges.life(x, 0, "broom 2;"), 0);
        told(x, 19, 0, 0, 1);
        Edges.due("row 5", Edges.life(x, 0, "day 1;broom 5;"), 1);
        told(x, 19, 1, 1, 1);
    }

    static void promise35_wrongInMoving() {
        CobwebLibrary x = Edges.made(TWO);
        Edges.due("to b", Edges.life(x, 0, "move a 1 0;"), 0);
        told(x, 21, 0, 0, 2);
        Edges.due("to itself", Edges.life(x, 0, "day 1;move a 0 0;"), 1);
        told(x, 21, 1, 1, 2);
    }

    static void promise35_noSuchCell() {
        CobwebLibrary x = Edges.made("shelves 2 3;book a 0 0;web a 30;");
        Edges.due("1, 2", Edges.life(x, 0, "move a 1 2;"), -1);
        told(x, 0, 1, 0, 1);
        Edges.due("2, 2", Edges.life(x, 0, "move a 2 2;"), 0);
        told(x, 29, 0, 0, 1);
        Edges.due("1, 3", Edges.life(x, 0, "move a 1 3;"), 0);
        told(x, 29, 0, 0, 1);
    }

    static void promise35_fewerDaysAreLeft() {
        CobwebLibrary x = Edges.late("book a 0 0;", 390);
        Edges.due("ten days", Edges.life(x, 0, "day 10;"), -1);
        told(x, 0, 1, 400, 1);
        Edges.due("eleven days", Edges.life(x, 0, "day 11;"), 0);
        told(x, 31, 0, 390, 1);
        Edges.due("one more", Edges.life(x, 1, "day 9;ask a;day 1;day 1;"), 3);
        told(x, 31, 3, 400, 0);
        Edges.due("now(0)", x.now(0), 400);
        Edges.due("all are over", Edges.life(x, 1, "day 1;"), 0);
        told(x, 31, 0, 400, 0);
    }

    static void promise35_lawAndDogmaThen() {
        CobwebLibrary x = Edges.made("law 5;book a 0 0;book b 1 0;book c 2 0;web a 3;web b 4;web c 9;");
        Edges.life(x, 0, "day 1;");
        told(x, 0, 1, 1, 6);
        Edges.life(x, 0, "day 2;");
        told(x, 0, 1, 2, 7);
    }

    static void promise35_aFaultOrMinus1000LeavesIt() {
        CobwebLibrary x = Edges.made(TWO);
        Edges.life(x, 0, "day 3;ask a;ask a;");
        told(x, 1, 2, 3, 2);
        Edges.life(x, 0, "day 0;");
        told(x, 1, 2, 3, 2);
        x.life(7);
        told(x, 1, 2, 3, 2);
        x.library();
        told(x, 1, 2, 3, 2);
    }
}
