/** Boundary cases of promises 1 to 3 and 40: a new object, the tape, what is counted. */
final class TapeEdges {
    private static final int LAW = 0x6c617720;

    private TapeEdges() {
    }

    /** A tape of so many bytes that begins with "law 7;". */
    private static CobwebLibrary taped(int bytes) {
        CobwebLibrary x = new CobwebLibrary();
        for (int k = 0; k < bytes; k += 20) {
            x.feed(LAW, 0x373b2020, 0x20202020, 0x20202020, 0x20202020);
        }
        x.end(bytes);
        return x;
    }

    static void promise01_theLibraryIsEmpty() {
        CobwebLibrary x = new CobwebLibrary();
        int[] counts = {0, 4, 4, 10, 1, 3, 0};
        for (int what = 0; what < 7; what++) {
            Edges.due("count(" + what + ")", x.count(what), counts[what]);
            Edges.due("now(" + what + ")", x.now(what), 0);
        }
        for (int y = 0; y < 4; y++) {
            for (int column = 0; column < 4; column++) {
                Edges.due("at(" + column + ", " + y + ")", x.at(column, y), -1);
            }
        }
    }

    static void promise01_theTapeIsEmpty() {
        CobwebLibrary x = new CobwebLibrary();
        Edges.due("count(7)", x.count(7), 0);
        Edges.due("end(1)", x.end(1), false);
        Edges.due("end(0)", x.end(0), true);
        Edges.due("library()", x.library(), 0);
    }

    static void promise01_nothingWasToldYet() {
        CobwebLibrary x = new CobwebLibrary();
        int[] told = {x.wayAt(0), x.keepAt(0), x.askedAt(0), x.steps(), x.turn(), x.byteAt(0), x.told(0), x.told(1),
            x.told(2), x.told(3), x.said(-1), x.said(0), x.undo()};
        for (int k = 0; k < told.length; k++) {
            Edges.due("answer " + k, told[k], -1);
        }
        Edges.due("fault()", x.fault(), 0);
        Edges.due("restore(0)", x.restore(0), false);
        Edges.due("restore(1)", x.restore(1), false);
    }

    static void promise01_noBooksAtAll() {
        CobwebLibrary x = new CobwebLibrary();
        int[] none = {x.thread(0, 1), x.sight(0), x.ask(0), x.move(0, 0, 0), x.when(0), x.follow(0), x.way(0, 0), x.torn(0),
            x.catalogue(0), x.odds(0, 1, 1)};
        for (int k = 0; k < none.length; k++) {
            Edges.due("answer " + k, none[k], -1);
        }
        Edges.due("book(0, 0)", Edges.book(x, 0, 0), Edges.THROWN);
        Edges.due("quarrel(0)", Edges.quarrel(x, 0), Edges.THROWN);
        Edges.due("quarrels()", x.quarrels(), 0);
        Edges.due("broom(0)", x.broom(0), 1);
        Edges.due("keep(8)", x.keep(8), 0);
        Edges.due("turns(3)", x.turns(3), 0);
        Edges.due("days(30, 1)", x.days(30, 1), 30);
    }

    static void promise01_asManyAs512Calls() {
        CobwebLibrary x = new CobwebLibrary();
        Bench.feed(x, "book a 0 0;web a 9;");
        x.library();
        int calls = 4;
        while (calls < 510) {
            x.ask(0);
            x.days(30, calls);
            x.undo();
            calls += 3;
        }
        Edges.due("the 512th call is the next one", calls, 511);
        Edges.due("days(29, 1)", x.days(29, 1), 29);
    }

    static void promise02_theHighestByteComesFirst() {
        CobwebLibrary x = new CobwebLibrary();
        Edges.due("feed", x.feed(0x626f6f6b, 0x20612030, 0x20303b77, 0x65622061, 0x2031373b), 20);
        Edges.due("library()", x.library(), 2);
        Edges.due("book(0, 2)", Edges.book(x, 0, 2), 17);
    }

    static void promise02_bytesOfNumbersBelowNought() {
        CobwebLibrary x = new CobwebLibrary();
        Edges.due("feed", x.feed(-1, 0x6c61773b, 0, 0, 0), 20);
        Edges.due("library()", x.library(), -1);
        Edges.due("fault()", x.fault(), 1);
        x.feed(0x6c617720, 0x373b2020, 0x20202020, 0x20202020, Integer.MIN_VALUE);
        Edges.due("library()", x.library(), -17);
        x.feed(0x630163ff, 0, 0, 0, 0);
        x.end(3);
        Edges.due("spun()", x.spun(), 62);
    }

    static void promise02_asManyAs940() {
        CobwebLibrary x = new CobwebLibrary();
        for (int k = 1; k <= 47; k++) {
            Edges.due("feed", x.feed(k, k, k, k, k), 20 * k);
        }
        Edges.due("count(7)", x.count(7), 940);
    }

    static void promise02_noneComeBeyond940() {
        CobwebLibrary x = taped(940);
        Edges.due("feed", x.feed(-1, -1, -1, -1, -1), -1);
        Edges.due("count(7)", x.count(7), 940);
        Edges.due("end(941)", x.end(941), false);
        x.end(6);
        Edges.due("library()", x.library(), 1);
        Edges.due("count(3)", x.count(3), 7);
    }

    static void promise02_from921OnNoMoreCome() {
        CobwebLibrary x = taped(940);
        for (int bytes = 939; bytes >= 921; bytes--) {
            x.end(bytes);
            Edges.due("feed behind " + bytes, x.feed(0, 0, 0, 0, 0), -1);
            Edges.due("count(7)", x.count(7), bytes);
        }
        x.end(920);
        Edges.due("feed behind 920", x.feed(0, 0, 0, 0, 0), 940);
    }

    static void promise02_behindATapeThatEndsAnywhere() {
        CobwebLibrary x = new CobwebLibrary();
        x.feed(LAW, 0x35000000, 0, 0, 0);
        x.end(5);
        Edges.due("feed", x.feed(0x303b0000, 0, 0, 0, 0), 25);
        x.end(7);
        Edges.due("library()", x.library(), 1);
        Edges.due("count(3)", x.count(3), 50);
    }

    static void promise03_theFirstBytesAlone() {
        CobwebLibrary x = taped(20);
        Edges.due("end(6)", x.end(6), true);
        Edges.due("count(7)", x.count(7), 6);
        Edges.due("end(7)", x.end(7), false);
        Edges.due("library()", x.library(), 1);
    }

    static void promise03_allBytes() {
        CobwebLibrary x = taped(20);
        Edges.due("end(20)", x.end(20), true);
        Edges.due("count(7)", x.count(7), 20);
        CobwebLibrary full = taped(940);
        Edges.due("end(940)", full.end(940), true);
        Edges.due("count(7)", full.count(7), 940);
    }

    static void promise03_itHasNotSoMany() {
        CobwebLibrary x = taped(20);
        for (int n : new int[] {21, 940, 941, Integer.MAX_VALUE}) {
            Edges.due("end(" + n + ")", x.end(n), false);
            Edges.due("count(7)", x.count(7), 20);
        }
    }

    static void promise03_belowNought() {
        CobwebLibrary x = taped(20);
        for (int n : new int[] {-1, -20, Integer.MIN_VALUE}) {
            Edges.due("end(" + n + ")", x.end(n), false);
            Edges.due("count(7)", x.count(7), 20);
        }
        Edges.due("library()", x.library(), 1);
    }

    static void promise03_nought() {
        CobwebLibrary x = taped(20);
        Edges.due("end(0)", x.end(0), true);
        Edges.due("count(7)", x.count(7), 0);
        Edges.due("end(0)", x.end(0), true);
        Edges.due("end(1)", x.end(1), false);
        Edges.due("library()", x.library(), 0);
    }

    static void promise03_bytesBehindItAreNoMore() {
        CobwebLibrary x = new CobwebLibrary();
        x.feed(0x72617265, 0x73737373, 0x73737373, 0x73737373, 0x73737373);
        x.end(4);
        Edges.due("sentence() of 'rare'", x.sentence(), 1);
        x.feed(0x6c617720, 0x37373737, 0x37373737, 0x37373737, 0x37373737);
        x.end(5);
        Edges.due("library() of 'law 7'", x.library(), -6);
        Edges.due("fault()", x.fault(), 1);
        x.feed(0x6c617720, 0x373b6262, 0x62626262, 0x62626262, 0x62626262);
        x.end(6);
        Edges.due("library() of 'law 7;'", x.library(), 1);
    }

    static void promise40_eachCount() {
        CobwebLibrary x = Edges.made("shelves 2 6;law 50;spin 5;line 49;draught 12;book a 1 5;");
        x.feed(0, 0, 0, 0, 0);
        x.end(13);
        int[] counts = {1, 2, 6, 50, 5, 49, 12, 13};
        for (int what = 0; what < 8; what++) {
            Edges.due("count(" + what + ")", x.count(what), counts[what]);
        }
    }

    static void promise40_anotherWhat() {
        CobwebLibrary x = Edges.made("book a 0 0;");
        Edges.due("count(-1)", x.count(-1), -1);
        Edges.due("count(8)", x.count(8), -1);
        for (int what : Edges.FAR) {
            Edges.due("count(" + what + ")", x.count(what), -1);
        }
    }

    static void promise40_eightBooks() {
        CobwebLibrary x = new CobwebLibrary();
        for (int b = 0; b < 8; b++) {
            StringBuilder text = new StringBuilder();
            for (int k = 0; k <= b; k++) {
                text.append("book ").append((char) ('p' + k)).append(' ').append(k % 4).append(' ').append(k / 4).append(';');
            }
            Edges.due("library()", Edges.library(x, text.toString()), b + 1);
            Edges.due("count(0)", x.count(0), b + 1);
        }
    }

    static void promise40_theTapeBehindEachCallThatTakesIt() {
        CobwebLibrary x = taped(20);
        Edges.due("count(7)", x.count(7), 20);
        x.library();
        Edges.due("count(7) behind library()", x.count(7), 0);
        x.feed(0, 0, 0, 0, 0);
        x.asked(1);
        Edges.due("count(7) behind asked()", x.count(7), 0);
        x.feed(0, 0, 0, 0, 0);
        x.spun();
        Edges.due("count(7) behind spun()", x.count(7), 0);
        x.feed(0, 0, 0, 0, 0);
        x.life(0);
        Edges.due("count(7) behind life()", x.count(7), 0);
        x.feed(0, 0, 0, 0, 0);
        x.sentence();
        Edges.due("count(7) behind sentence()", x.count(7), 0);
    }
}
