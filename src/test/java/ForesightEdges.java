/** Boundary cases of promises 16 to 33: what will be, what follows, what was, ways, turns, cards, odds. */
final class ForesightEdges {
    private static final String TWO = "book a 0 0;book b 1 0;";
    private static final int[] NO_BOOKS = {-1, 2, 7, 8, 32, Integer.MIN_VALUE, Integer.MAX_VALUE};

    private ForesightEdges() {
    }

    private static String named(String each, String between) {
        StringBuilder s = new StringBuilder();
        for (char a = 'a'; a <= 'h'; a++) {
            for (char b = (char) (a + 1); b <= 'h'; b++) {
                s.append(each).append(' ').append(a).append(' ').append(b).append(between).append(';');
            }
        }
        return s.toString();
    }

    private static String eight(String behind) {
        StringBuilder s = new StringBuilder("shelves 6 6;");
        for (int b = 0; b < 8; b++) {
            s.append("book ").append((char) ('a' + b)).append(' ').append(b % 6).append(' ').append(b / 6).append(';');
        }
        return s.append(behind).toString();
    }

    // ---- 16

    static void promise16_noSuchOne() {
        CobwebLibrary x = Edges.made(TWO);
        for (int b : NO_BOOKS) {
            Edges.due("when(" + b + ")", x.when(b), -1);
        }
    }

    static void promise16_itDoesNow() {
        CobwebLibrary x = Edges.made(TWO + "book c 2 0;law 7;web a 7;web b 14;web c 99;");
        Edges.due("when(0)", x.when(0), 0);
        Edges.due("when(1)", x.when(1), 0);
        Edges.due("when(2)", x.when(2), 0);
    }

    static void promise16_theDaysTillThen() {
        int[] days = {4, 3, 3, 3, 2, 2, 2, 1, 1, 1, 0};
        for (int web = 0; web <= 10; web++) {
            CobwebLibrary x = Edges.made("book a 0 0;spin 3;" + (web == 0 ? "" : "web a " + web + ";"));
            Edges.due("when(0) of web " + web, x.when(0), days[web]);
            x.days(Math.max(1, days[web]), 1);
            Edges.due("law then", Edges.book(x, 0, 3) > 0, true);
        }
        Edges.due("the most days", Edges.made("book a 0 0;law 50;").when(0), 50);
        Edges.due("one day", Edges.made("book a 0 0;law 5;spin 5;").when(0), 1);
        Edges.due("two days", Edges.made("book a 0 0;law 6;spin 5;").when(0), 2);
    }

    static void promise16_askedForToday() {
        CobwebLibrary x = Edges.made("book a 0 0;web a 10;spin 5;");
        x.ask(0);
        Edges.due("when(0)", x.when(0), 3);
        x.days(1, 1);
        Edges.due("when(0) the next day", x.when(0), 2);
    }

    static void promise16_withoutDraughts() {
        CobwebLibrary x = Edges.made("book a 0 0;draught 12;");
        Edges.due("when(0)", x.when(0), 10);
    }

    static void promise16_fewerDaysAreLeft() {
        CobwebLibrary x = Edges.late("book a 0 0;law 10;", 389);
        x.ask(0);
        Edges.due("when(0), 11 days left", x.when(0), 11);
        CobwebLibrary y = Edges.late("book a 0 0;law 10;", 390);
        y.ask(0);
        Edges.due("when(0), 10 days left", y.when(0), -1);
        CobwebLibrary z = Edges.late("book a 0 0;law 10;", 390);
        z.broom(0);
        Edges.due("when(0), swept, 10 days left", z.when(0), 10);
    }

    static void promise16_allDaysAreOver() {
        CobwebLibrary x = Edges.late(TWO, 400);
        Edges.due("when(0) of a law", x.when(0), 0);
        x.ask(0);
        Edges.due("when(0) in doubt", x.when(0), -1);
    }

    // ---- 17

    static void promise17_noSuchOne() {
        CobwebLibrary x = Edges.made(TWO);
        for (int b : NO_BOOKS) {
            Edges.due("follow(" + b + ")", x.follow(b), -1);
        }
    }

    static void promise17_itselfAlone() {
        CobwebLibrary x = Edges.made(TWO + "thread a b 2;");
        Edges.due("follow(0)", x.follow(0), 1);
        Edges.due("follow(1)", x.follow(1), 2);
    }

    static void promise17_byLinesJustThickEnough() {
        CobwebLibrary x = Edges.made(TWO + "book c 2 0;line 4;thread a b 4;thread b c 3;");
        Edges.due("follow(0)", x.follow(0), 3);
        Edges.due("follow(2)", x.follow(2), 4);
        x.days(1, 1);
        Edges.due("follow(2) a day later", x.follow(2), 7);
    }

    static void promise17_allEightInAChain() {
        CobwebLibrary x = Edges.made(eight("thread h a 3;thread a g 3;thread g b 3;thread b f 3;thread f c 3;thread c e 3;"
            + "thread e d 3;"));
        for (int b = 0; b < 8; b++) {
            Edges.due("follow(" + b + ")", x.follow(b), 255);
        }
        x.ask(1);
        Edges.due("follow(7), cut in two", x.follow(7), 1 << 7 | 1 | 1 << 6);
        Edges.due("follow(3), cut in two", x.follow(3), 1 << 3 | 1 << 4 | 1 << 2 | 1 << 5);
        Edges.due("follow(1), cut off", x.follow(1), 2);
    }

    // ---- 18, 19

    static void promise18_noSuchOnes() {
        CobwebLibrary x = Edges.made(TWO + "thread a b 3;");
        for (int b : NO_BOOKS) {
            Edges.due("way(" + b + ", 0)", x.way(b, 0), -1);
            Edges.due("way(0, " + b + ")", x.way(0, b), -1);
            Edges.due("way(" + b + ", " + b + ")", x.way(b, b), -1);
        }
    }

    static void promise18_theSame() {
        CobwebLibrary x = Edges.made(TWO);
        Edges.due("way(0, 0)", x.way(0, 0), 0);
        Edges.due("way(1, 1)", x.way(1, 1), 0);
    }

    static void promise18_itDoesNotFollow() {
        CobwebLibrary x = Edges.made(TWO + "thread a b 2;");
        Edges.due("way(0, 1)", x.way(0, 1), -1);
        x.days(1, 1);
        Edges.due("way(0, 1) a day later", x.way(0, 1), 1);
    }

    static void promise18_sevenLines() {
        CobwebLibrary x = Edges.made(eight("thread h a 3;thread a g 3;thread g b 3;thread b f 3;thread f c 3;thread c e 3;"
            + "thread e d 3;"));
        Edges.due("way(7, 3)", x.way(7, 3), 7);
        Edges.due("way(3, 7)", x.way(3, 7), 7);
        Edges.due("way(7, 4)", x.way(7, 4), 6);
    }

    static void promise18_asFewLinesAsCanBe() {
        CobwebLibrary x = Edges.made(eight("thread a b 3;thread b c 3;thread c d 3;thread a h 3;thread h d 3;"));
        Edges.due("way(0, 3)", x.way(0, 3), 2);
        Edges.due("wayAt(1)", x.wayAt(1), 7);
    }

    static void promise19_aheadOfAny() {
        CobwebLibrary x = Edges.made(TWO);
        Edges.due("wayAt(0)", x.wayAt(0), -1);
        Edges.due("way(0, 1)", x.way(0, 1), -1);
        Edges.due("wayAt(0)", x.wayAt(0), -1);
    }

    static void promise19_noneSuch() {
        CobwebLibrary x = Edges.made(TWO + "thread a b 3;");
        x.way(1, 0);
        Edges.due("wayAt(0)", x.wayAt(0), 1);
        Edges.due("wayAt(1)", x.wayAt(1), 0);
        Edges.due("wayAt(2)", x.wayAt(2), -1);
        Edges.due("wayAt(-1)", x.wayAt(-1), -1);
        for (int k : Edges.FAR) {
            Edges.due("wayAt(" + k + ")", x.wayAt(k), -1);
        }
    }

    static void promise19_theSameBookIsAWayOfOne() {
        CobwebLibrary x = Edges.made(TWO + "thread a b 3;");
        x.way(0, 1);
        x.way(1, 1);
        Edges.due("wayAt(0)", x.wayAt(0), 1);
        Edges.due("wayAt(1)", x.wayAt(1), -1);
    }

    static void promise19_allEight() {
        CobwebLibrary x = Edges.made(eight("thread h a 3;thread a g 3;thread g b 3;thread b f 3;thread f c 3;thread c e 3;"
            + "thread e d 3;"));
        x.way(7, 3);
        int[] row = {7, 0, 6, 1, 5, 2, 4, 3, -1};
        for (int k = 0; k < row.length; k++) {
            Edges.due("wayAt(" + k + ")", x.wayAt(k), row[k]);
        }
    }

    static void promise19_ofLikeWaysTheFirst() {
        CobwebLibrary x = Edges.made(eight("thread a c 3;thread a b 3;thread b f 3;thread c e 3;thread e h 3;thread f h 3;"));
        Edges.due("way(0, 7)", x.way(0, 7), 3);
        Edges.due("wayAt(1)", x.wayAt(1), 1);
        Edges.due("wayAt(2)", x.wayAt(2), 5);
        Edges.due("way(7, 0)", x.way(7, 0), 3);
        Edges.due("wayAt(1)", x.wayAt(1), 4);
        Edges.due("wayAt(2)", x.wayAt(2), 2);
    }

    static void promise19_aWayOfNoneLeavesTheLatest() {
        CobwebLibrary x = Edges.made(TWO + "book c 2 0;thread b a 3;");
        x.way(1, 0);
        x.way(0, 2);
        x.way(0, 9);
        Edges.due("wayAt(0)", x.wayAt(0), 1);
        Edges.due("wayAt(1)", x.wayAt(1), 0);
        x.ask(0);
        Edges.due("wayAt(1) when the line is torn", x.wayAt(1), 0);
        x.library();
        Edges.due("wayAt(1) in a new library", x.wayAt(1), 0);
    }

    // ---- 20, 21

    static void promise20_bothReadLawOrDogma() {
        CobwebLibrary x = Edges.made("law 5;book a 0 0;book b 1 0;book c 2 0;web a 4;web b 5;web c 10;quarrel a b;quarrel a c;");
        Edges.due("one in doubt", x.quarrels(), 0);
        CobwebLibrary y = Edges.made("law 5;book a 0 0;book b 1 0;book c 2 0;web a 5;web b 5;web c 10;quarrel a b;quarrel a c;");
        Edges.due("law and law, law and dogma", y.quarrels(), 2);
        x.days(1, 1);
        Edges.due("a day later", x.quarrels(), 2);
    }

    static void promise20_noneAndAll() {
        Edges.due("no books", new CobwebLibrary().quarrels(), 0);
        Edges.due("no quarrels told", Edges.made(TWO + "web a 99;web b 99;").quarrels(), 0);
        CobwebLibrary x = Edges.made(eight("law 1;" + named("quarrel", "")));
        Edges.due("all in doubt", x.quarrels(), 0);
        x.days(1, 1);
        Edges.due("all 28", x.quarrels(), 28);
        x.ask(7);
        Edges.due("without one book's", x.quarrels(), 21);
    }

    static void promise21_thereIsNone() {
        CobwebLibrary x = Edges.made(TWO + "quarrel a b;web a 10;web b 9;");
        Edges.due("quarrel(0)", Edges.quarrel(x, 0), Edges.THROWN);
        Edges.due("quarrel(1)", Edges.quarrel(x, 1), Edges.THROWN);
        Edges.due("no books", Edges.quarrel(new CobwebLibrary(), 0), Edges.THROWN);
    }

    static void promise21_anotherWhat() {
        CobwebLibrary x = Edges.made(TWO + "quarrel a b;web a 10;web b 10;");
        Edges.due("quarrel(0)", Edges.quarrel(x, 0), 0);
        Edges.due("quarrel(1)", Edges.quarrel(x, 1), 1);
        Edges.due("quarrel(2)", Edges.quarrel(x, 2), Edges.THROWN);
        Edges.due("quarrel(-1)", Edges.quarrel(x, -1), Edges.THROWN);
        for (int what : Edges.FAR) {
            Edges.due("quarrel(" + what + ")", Edges.quarrel(x, what), Edges.THROWN);
        }
    }

    static void promise21_theFirstPair() {
        CobwebLibrary x = Edges.made(eight("law 1;quarrel h g;quarrel f b;quarrel d b;quarrel h a;"));
        x.days(1, 1);
        Edges.due("quarrel(0)", Edges.quarrel(x, 0), 0);
        Edges.due("quarrel(1)", Edges.quarrel(x, 1), 7);
        x.ask(0);
        Edges.due("quarrel(0)", Edges.quarrel(x, 0), 1);
        Edges.due("quarrel(1), of like lesser ones the least", Edges.quarrel(x, 1), 3);
        x.ask(1);
        Edges.due("quarrel(0)", Edges.quarrel(x, 0), 6);
        Edges.due("quarrel(1)", Edges.quarrel(x, 1), 7);
    }

    static void promise21_aCallThatThrowsChangesNothing() {
        CobwebLibrary x = Edges.made(TWO + "quarrel a b;web a 4;");
        x.ask(1);
        String ahead = Edges.allOf(x);
        Edges.quarrel(x, 0);
        Edges.quarrel(x, 5);
        Edges.due("all", Edges.allOf(x), ahead);
        Edges.due("undo()", x.undo(), 0);
    }

    // ---- 22, 23

    private static void kept(CobwebLibrary x, int n, int askings, int... row) {
        Edges.due("keep(" + n + ")", x.keep(n), askings);
        for (int k = 0; k < row.length; k++) {
            Edges.due("keepAt(" + k + ") of keep(" + n + ")", x.keepAt(k), row[k]);
        }
    }

    static void promise22_notAsTold() {
        CobwebLibrary x = Edges.made("book a 0 0 rare;");
        Edges.due("keep(0)", x.keep(0), -1);
        Edges.due("keep(-1)", x.keep(-1), -1);
        Edges.due("keep(9)", x.keep(9), -1);
        for (int n : Edges.FAR) {
            Edges.due("keep(" + n + ")", x.keep(n), -1);
        }
        Edges.due("keep(1)", x.keep(1), 0);
        Edges.due("keep(8)", x.keep(8), 0);
    }

    static void promise22_fewerDaysAreLeft() {
        CobwebLibrary x = Edges.late("book a 0 0;", 395);
        Edges.due("keep(5)", x.keep(5), 0);
        Edges.due("keep(6)", x.keep(6), -1);
        CobwebLibrary over = Edges.late("book a 0 0;", 400);
        Edges.due("keep(1)", over.keep(1), -1);
        CobwebLibrary eight = Edges.late("book a 0 0;", 392);
        Edges.due("keep(8)", eight.keep(8), 0);
    }

    static void promise22_noRareOnes() {
        kept(Edges.made("law 1;book a 0 0;book b 1 0;web a 99;"), 8, 0, -1, -1, -1, -1, -1, -1, -1, -1);
    }

    static void promise22_atTheEndOfADay() {
        kept(Edges.made("law 5;book a 0 0 rare;web a 3;"), 1, 0, -1);
        kept(Edges.made("law 5;book a 0 0 rare;web a 4;"), 1, 1, 0);
        kept(Edges.made("law 5;book a 0 0 rare;web a 99;"), 1, 1, 0);
        kept(Edges.made("law 5;spin 4;book a 0 0 rare;"), 1, 0, -1);
        kept(Edges.made("law 5;spin 5;book a 0 0 rare;"), 1, 1, 0);
    }

    static void promise22_byNone() {
        CobwebLibrary x = Edges.made("law 1;book a 0 0 rare;book b 1 0 rare;");
        Edges.due("two in one day", x.keep(1), -1);
        CobwebLibrary y = Edges.made("law 2;book a 0 0 rare;book b 1 0 rare;book c 2 0 rare;");
        Edges.due("none needed", y.keep(1), 0);
        Edges.due("three in two days", y.keep(2), -1);
        Edges.due("three in eight days", y.keep(8), -1);
    }

    static void promise22_noneThatWasAskedForToday() {
        CobwebLibrary x = Edges.made("law 1;book a 0 0 rare;");
        x.ask(0);
        kept(x, 1, 0, -1, -1);
        kept(x, 2, 1, -1, 0, -1);
        CobwebLibrary two = Edges.made("law 1;book a 0 0 rare;book b 1 0 rare;");
        two.ask(1);
        kept(two, 1, 1, 0, -1);
        Edges.due("keep(2)", two.keep(2), -1);
    }

    static void promise22_allEightDays() {
        CobwebLibrary x = Edges.made("law 3;book a 0 0 rare;book b 1 0 rare;book c 2 0 rare;");
        kept(x, 2, 0, -1, -1, -1);
        kept(x, 3, 3, 0, 1, 2, -1);
        kept(x, 4, 4, 0, 1, 2, 0, -1);
        kept(x, 8, 8, 0, 1, 2, 0, 1, 2, 0, 1, -1);
        kept(Edges.made("law 1;book a 0 0;book z 3 3 rare;"), 8, 8, 1, 1, 1, 1, 1, 1, 1, 1, -1);
    }

    static void promise22_eightBooks() {
        String text = "law 50;book a 0 0;book b 1 0;book c 2 0;book d 3 0;book e 0 1;book f 1 1;book g 2 1 rare;book h 3 1 rare;";
        kept(Edges.made(text), 8, 0, -1, -1, -1, -1, -1, -1, -1, -1);
        kept(Edges.made(text + "web h 42;"), 8, 1, 7, -1, -1, -1, -1, -1, -1, -1);
        kept(Edges.made(text + "web h 42;web g 49;"), 8, 2, 6, 7, -1, -1, -1, -1, -1, -1);
    }

    static void promise22_noneBehindAllBooks() {
        CobwebLibrary x = Edges.made("law 4;book a 0 0 rare;");
        kept(x, 4, 1, 0, -1, -1, -1, -1);
        kept(x, 5, 1, -1, 0, -1, -1, -1);
        kept(x, 7, 1, -1, -1, -1, 0, -1, -1, -1);
        kept(x, 8, 2, 0, -1, -1, -1, 0, -1, -1, -1, -1);
    }

    static void promise22_withoutDraughtsAndNothingIsDone() {
        CobwebLibrary x = Edges.made("law 4;book a 0 0 rare;web a 3;draught 12;");
        String ahead = Edges.allOf(x);
        kept(x, 1, 1, 0);
        Edges.due("all", Edges.allOf(x), ahead);
        Edges.due("undo()", x.undo(), -1);
    }

    static void promise23_aheadOfAny() {
        CobwebLibrary x = Edges.made("law 1;book a 0 0 rare;book b 1 0 rare;");
        Edges.due("keepAt(0)", x.keepAt(0), -1);
        x.keep(1);
        x.keep(0);
        Edges.due("keepAt(0)", x.keepAt(0), -1);
    }

    static void promise23_noneSuch() {
        CobwebLibrary x = Edges.made("law 1;book a 0 0 rare;");
        x.keep(8);
        Edges.due("keepAt(7)", x.keepAt(7), 0);
        Edges.due("keepAt(8)", x.keepAt(8), -1);
        Edges.due("keepAt(-1)", x.keepAt(-1), -1);
        for (int k : Edges.FAR) {
            Edges.due("keepAt(" + k + ")", x.keepAt(k), -1);
        }
        x.keep(2);
        Edges.due("keepAt(1)", x.keepAt(1), 0);
        Edges.due("keepAt(2)", x.keepAt(2), -1);
    }

    static void promise23_aKeepOfNoneLeavesTheLatest() {
        CobwebLibrary x = Edges.made("law 2;book a 0 0;book b 1 0 rare;book c 2 0 rare;web b 1;");
        kept(x, 2, 2, 1, 2);
        x.keep(9);
        Edges.due("keepAt(1) behind keep(9)", x.keepAt(1), 2);
        x.days(1, 1);
        x.days(1, 1);
        Edges.library(x, "law 1;book a 0 0 rare;book b 1 0 rare;");
        Edges.due("keep(1)", x.keep(1), -1);
        Edges.due("keepAt(0) behind a keep by none", x.keepAt(0), 1);
        Edges.due("keepAt(1) behind a keep by none", x.keepAt(1), 2);
    }

    static void promise23_aKeepOfNoughtIsTheLatest() {
        CobwebLibrary x = Edges.made("law 2;book a 0 0 rare;web a 1;");
        kept(x, 1, 1, 0);
        x.broom(0);
        kept(x, 1, 0, -1);
    }

    // ---- 24, 25

    static void promise24_notAsManyDaysAsTold() {
        CobwebLibrary x = Edges.made(TWO);
        Edges.due("asked(0)", Edges.asked(x, 0, 0, 0), -1);
        Edges.due("asked(-1)", Edges.asked(x, -1, 0, 0), -1);
        Edges.due("asked(4)", Edges.asked(x, 4, 0, 0), -1);
        for (int n : Edges.FAR) {
            Edges.due("asked(" + n + ")", Edges.asked(x, n, 0, 0), -1);
            Edges.due("count(7)", x.count(7), 0);
        }
        Edges.due("asked(1)", Edges.asked(x, 1, 0, 0), 1);
        Edges.due("asked(3)", Edges.asked(x, 3, 0, 3), 8);
    }

    static void promise24_oneToEightPairs() {
        CobwebLibrary x = Edges.made(TWO);
        Edges.due("no pair", Edges.asked(x, 1), -1);
        Edges.due("one pair", Edges.asked(x, 1, 0, 0), 1);
        Edges.due("eight pairs", Edges.asked(x, 1, 0, 0, 1, 1, 0, 0, 1, 1, 0, 0, 1, 1, 0, 0, 1, 1), 1);
        Edges.due("nine pairs", Edges.asked(x, 1, 0, 0, 1, 1, 0, 0, 1, 1, 0, 0, 1, 1, 0, 0, 1, 1, 0, 0), -1);
        x.feed(0, 0, 0, 0, 0);
        Edges.due("ten pairs", x.asked(1), -1);
    }

    static void promise24_halfAPair() {
        CobwebLibrary x = Edges.made(TWO);
        Edges.due("one byte", Edges.asked(x, 1, 0), -1);
        Edges.due("three bytes", Edges.asked(x, 1, 0, 0, 1), -1);
        Edges.due("seventeen bytes", Edges.asked(x, 1, 0, 0, 0, 0, 0, 0, 0, 0, 0, 0, 0, 0, 0, 0, 0, 0, 0), -1);
    }

    static void promise24_noSuchBook() {
        CobwebLibrary x = Edges.made(TWO);
        Edges.due("book 1", Edges.asked(x, 1, 1, 0), 1);
        Edges.due("book 2", Edges.asked(x, 1, 2, 0), -1);
        Edges.due("book 8", Edges.asked(x, 1, 8, 0), -1);
        Edges.due("book 255", Edges.asked(x, 1, 255, 0), -1);
        Edges.due("the second pair", Edges.asked(x, 1, 0, 0, 2, 0), -1);
        Edges.due("no books", Edges.asked(new CobwebLibrary(), 1, 0, 0), -1);
    }

    static void promise24_webs() {
        CobwebLibrary x = Edges.made(TWO + "web a 98;");
        Edges.due("web 99", Edges.asked(x, 1, 0, 99), 2);
        Edges.due("web 98", Edges.asked(x, 1, 0, 98), 0);
        Edges.due("web 100", Edges.asked(x, 1, 0, 100), -1);
        Edges.due("web 255", Edges.asked(x, 1, 0, 255), -1);
        Edges.due("never above 99", Edges.asked(x, 3, 0, 99), 8);
    }

    static void promise24_fewerDaysAreLeft() {
        CobwebLibrary x = Edges.late("book a 0 0;", 398);
        Edges.due("asked(2)", Edges.asked(x, 2, 0, 99), 1);
        Edges.due("asked(3)", Edges.asked(x, 3, 0, 99), -1);
        Edges.due("count(7)", x.count(7), 0);
        CobwebLibrary three = Edges.late("book a 0 0;", 397);
        Edges.due("asked(3)", Edges.asked(three, 3, 0, 99), 1);
        CobwebLibrary over = Edges.late("book a 0 0;", 400);
        Edges.due("asked(1)", Edges.asked(over, 1, 0, 99), -1);
    }

    static void promise24_noRow() {
        CobwebLibrary x = Edges.made(TWO);
        Edges.due("asked(1)", Edges.asked(x, 1, 0, 2), 0);
        Edges.due("told twice unlike", Edges.asked(x, 1, 0, 0, 0, 1), 0);
        Edges.due("both in one day", Edges.asked(x, 1, 0, 0, 1, 0), 0);
    }

    static void promise24_allRows() {
        CobwebLibrary x = Edges.made(eight("web a 99;"));
        Edges.due("all rows without a", Edges.asked(x, 3, 0, 99), 512);
        CobwebLibrary one = Edges.made("book a 0 0;web a 99;");
        Edges.due("a or none, a at last", Edges.asked(one, 3, 0, 0), 4);
        Edges.due("a or none, a a day ahead", Edges.asked(one, 3, 0, 1), 2);
        Edges.due("a or none, a at first", Edges.asked(one, 3, 0, 2), 1);
        Edges.due("none at all", Edges.asked(one, 3, 0, 99), 1);
    }

    static void promise24_noneThatWasAskedForToday() {
        CobwebLibrary x = Edges.made(TWO);
        x.ask(0);
        Edges.due("a's web is 0 already", Edges.asked(x, 1, 0, 0), 2);
        Edges.due("askedAt(0)", x.askedAt(0), 1);
        Edges.due("a grows from the second day on", Edges.asked(x, 2, 0, 1), 4);
        Edges.due("a the second day", Edges.asked(x, 2, 0, 0, 1, 2), 1);
        Edges.due("askedAt(0)", x.askedAt(0), -1);
        Edges.due("askedAt(1)", x.askedAt(1), 0);
    }

    static void promise24_withoutDraughtsAndNothingIsDone() {
        CobwebLibrary x = Edges.made(TWO + "web a 9;draught 12;");
        String ahead = Edges.allOf(x);
        Edges.due("asked(1)", Edges.asked(x, 1, 0, 10), 2);
        Edges.due("all", Edges.allOf(x), ahead);
        Edges.due("undo()", x.undo(), -1);
    }

    static void promise25_aheadOfAny() {
        CobwebLibrary x = Edges.made(TWO);
        Edges.due("askedAt(0)", x.askedAt(0), -1);
        Edges.asked(x, 1, 0, 2);
        Edges.asked(x, 1, 2, 0);
        Edges.due("askedAt(0)", x.askedAt(0), -1);
    }

    static void promise25_noneSuch() {
        CobwebLibrary x = Edges.made(TWO);
        Edges.asked(x, 3, 0, 0, 1, 1);
        Edges.due("askedAt(0)", x.askedAt(0), 0);
        Edges.due("askedAt(1)", x.askedAt(1), 1);
        Edges.due("askedAt(2)", x.askedAt(2), 0);
        Edges.due("askedAt(3)", x.askedAt(3), -1);
        Edges.due("askedAt(-1)", x.askedAt(-1), -1);
        for (int k : Edges.FAR) {
            Edges.due("askedAt(" + k + ")", x.askedAt(k), -1);
        }
        Edges.asked(x, 1, 1, 0);
        Edges.due("askedAt(0)", x.askedAt(0), 1);
        Edges.due("askedAt(1) of one day", x.askedAt(1), -1);
    }

    static void promise25_noneInADay() {
        CobwebLibrary x = Edges.made(TWO);
        Edges.due("asked(2)", Edges.asked(x, 2, 0, 2, 1, 2), 1);
        Edges.due("askedAt(0)", x.askedAt(0), -1);
        Edges.due("askedAt(1)", x.askedAt(1), -1);
    }

    static void promise25_anAskedOfNoughtOrNoneLeavesTheLatest() {
        CobwebLibrary x = Edges.made(TWO);
        Edges.asked(x, 2, 1, 1);
        Edges.due("askedAt(0)", x.askedAt(0), 1);
        Edges.due("askedAt(1)", x.askedAt(1), 0);
        Edges.due("no row", Edges.asked(x, 1, 0, 2), 0);
        Edges.due("not as told", Edges.asked(x, 1, 0, 100), -1);
        Edges.due("not as told", Edges.asked(x, 4, 0, 0), -1);
        Edges.due("askedAt(0)", x.askedAt(0), 1);
        Edges.due("askedAt(1)", x.askedAt(1), 0);
    }

    static void promise25_noneBehindAllBooks() {
        CobwebLibrary x = Edges.made(eight("web h 99;"));
        Edges.asked(x, 3, 7, 99);
        Edges.due("askedAt(0)", x.askedAt(0), 0);
        Edges.due("askedAt(2)", x.askedAt(2), 0);
        Edges.due("all but h", Edges.asked(x, 1, 0, 1, 1, 1, 2, 1, 3, 1, 4, 1, 5, 1, 6, 1), 2);
        Edges.due("askedAt(0): h ahead of none", x.askedAt(0), 7);
    }

    // ---- 26

    private static int spunBy(int... bytes) {
        CobwebLibrary x = new CobwebLibrary();
        int spins = Edges.spun(x, bytes);
        Edges.due("count(7) behind spun()", x.count(7), 0);
        return spins;
    }

    static void promise26_oneToSixTriples() {
        Edges.due("none", spunBy(), -1);
        Edges.due("one", spunBy(0, 1, 1), 2);
        Edges.due("six", spunBy(0, 1, 3, 0, 2, 6, 0, 3, 9, 0, 4, 12, 0, 5, 15, 0, 6, 18), 8);
        Edges.due("seven", spunBy(0, 1, 3, 0, 2, 6, 0, 3, 9, 0, 4, 12, 0, 5, 15, 0, 6, 18, 0, 7, 21), -1);
    }

    static void promise26_partsOfTriples() {
        Edges.due("one byte", spunBy(0), -1);
        Edges.due("two bytes", spunBy(0, 1), -1);
        Edges.due("four bytes", spunBy(0, 1, 1, 0), -1);
        Edges.due("five bytes", spunBy(0, 1, 1, 0, 1), -1);
        CobwebLibrary x = new CobwebLibrary();
        x.feed(0x00010100, 0x01010001, 0x01000101, 0x00010100, 0x01010001);
        Edges.due("twenty bytes", x.spun(), -1);
    }

    static void promise26_daysFromOneTo99() {
        Edges.due("no day", spunBy(0, 0, 0), -1);
        Edges.due("one day", spunBy(0, 1, 5), 32);
        Edges.due("99 days", spunBy(0, 99, 99), 62);
        Edges.due("100 days", spunBy(0, 100, 99), -1);
        Edges.due("255 days", spunBy(0, 255, 99), -1);
        Edges.due("no day behind others", spunBy(0, 1, 5, 0, 0, 0), -1);
    }

    static void promise26_websUpTo99() {
        Edges.due("99 ahead", spunBy(99, 1, 99), 62);
        Edges.due("100 ahead", spunBy(100, 1, 99), -1);
        Edges.due("100 behind", spunBy(99, 1, 100), -1);
        Edges.due("255", spunBy(255, 1, 255), -1);
    }

    static void promise26_spinsFromOneToFive() {
        for (int spin = 1; spin <= 5; spin++) {
            Edges.due("spin " + spin, spunBy(7, 3, 7 + 3 * spin), 1 << spin);
        }
        Edges.due("spin 0", spunBy(7, 3, 7), 0);
        Edges.due("spin 6", spunBy(7, 3, 25), 0);
        Edges.due("less behind", spunBy(7, 3, 6), 0);
    }

    static void promise26_neverAbove99() {
        Edges.due("by 5 just 99", spunBy(89, 2, 99), 32);
        Edges.due("by 5 at least 99", spunBy(90, 2, 99), 32);
        Edges.due("by 4, 5 at least 99", spunBy(91, 2, 99), 48);
        Edges.due("98 by none but 4", spunBy(90, 2, 98), 16);
        Edges.due("98 from 98", spunBy(98, 1, 98), 0);
    }

    static void promise26_byAllTriples() {
        Edges.due("two that agree", spunBy(91, 2, 99, 0, 1, 4), 16);
        Edges.due("two that do not", spunBy(0, 1, 1, 0, 1, 2), 0);
    }

    static void promise26_inAnyLibraryOnAnyDay() {
        CobwebLibrary x = Edges.late("book a 0 0;spin 5;draught 12;", 400);
        Edges.due("spun()", Edges.spun(x, 0, 2, 4), 4);
    }

    // ---- 27, 28

    private static void tornBy(String text, int b, int thickness, int steps) {
        CobwebLibrary x = Edges.made(text);
        Edges.due("torn(" + b + ") in " + text, x.torn(b), thickness);
        Edges.due("steps() in " + text, x.steps(), steps);
    }

    static void promise27_noSuchOne() {
        CobwebLibrary x = Edges.made(TWO);
        for (int b : NO_BOOKS) {
            Edges.due("torn(" + b + ")", x.torn(b), -1);
        }
    }

    static void promise27_atTheDoor() {
        tornBy("book a 0 0;book b 3 0;book c 0 3;thread a b 9;thread a c 9;", 0, 0, 0);
    }

    static void promise27_theirOwnCellsNot() {
        tornBy("shelves 2 2;book a 0 0;book b 1 0;thread a b 99;", 1, 0, 1);
        tornBy("shelves 2 2;book a 1 0;book b 1 1;thread a b 99;", 1, 0, 2);
    }

    static void promise27_theLastCellToo() {
        tornBy("shelves 3 2;book a 0 0;book b 2 0;book c 1 0;thread a b 9;", 2, 9, 1);
        tornBy("shelves 3 3;book a 0 1;book b 2 1;book c 1 1;book d 1 0;book e 1 2;thread a b 9;thread d e 7;", 2, 16, 2);
    }

    static void promise27_aThreadOverTwoCellsCountsTwice() {
        tornBy("shelves 4 2;book a 0 0;book b 3 0;book c 0 1;book d 3 1;thread a b 1;thread c d 3;", 1, 2, 3);
        tornBy("shelves 4 2;book a 0 0;book b 3 0;book c 0 1;book d 3 1;thread a b 3;thread c d 1;", 1, 2, 5);
    }

    static void promise27_ofLikeOnesTheFewestSteps() {
        tornBy("shelves 4 2;book a 0 0;book b 3 0;book c 0 1;book d 3 1;thread a b 2;thread c d 2;", 1, 4, 3);
        tornBy("shelves 6 6;book a 5 5;", 0, 0, 10);
        tornBy("shelves 6 6;book a 5 0;", 0, 0, 5);
        tornBy("shelves 2 6;book a 1 5;", 0, 0, 6);
    }

    static void promise27_inNoRowAndNoColumn() {
        tornBy("shelves 3 3;book a 0 0;book b 2 2;book c 1 1;thread a b 50;", 2, 0, 2);
    }

    static void promise27_overABookBetween() {
        tornBy("shelves 4 2;book a 0 1;book b 1 1;book c 3 1;thread a c 5;", 1, 5, 2);
    }

    static void promise27_aLongWayRound() {
        tornBy("shelves 3 3;book a 0 0;book b 0 2;book d 1 2;book e 1 0;book f 2 0;book g 2 2;"
            + "thread a b 99;thread e d 98;thread f g 1;", 1, 1, 6);
    }

    static void promise27_eightBooks() {
        String text = "shelves 2 4;book a 0 0;book b 1 0;book c 0 1;book d 1 1;book e 0 2;book f 1 2;book g 0 3;book h 1 3;";
        tornBy(text + "thread a g 3;thread b h 2;", 7, 4, 4);
        tornBy(text + "thread a g 2;thread b h 9;", 7, 4, 4);
        tornBy(text + "thread a e 5;thread d h 4;thread g h 7;thread a b 8;", 7, 4, 4);
    }

    static void promise27_againAndAgain() {
        CobwebLibrary x = Edges.made("shelves 3 2;book a 0 0;book b 2 0;book c 1 0;thread a b 9;");
        Edges.due("torn(2)", x.torn(2), 9);
        Edges.due("torn(2)", x.torn(2), 9);
        x.ask(0);
        Edges.due("torn(2) when the thread is gone", x.torn(2), 0);
        x.undo();
        Edges.due("torn(2) when it hangs again", x.torn(2), 9);
    }

    static void promise27_nothingIsDone() {
        CobwebLibrary x = Edges.made("shelves 3 2;book a 0 0;book b 2 0;book c 1 0;thread a b 9;");
        String ahead = Edges.allOf(x);
        x.torn(2);
        Edges.due("all", Edges.allOf(x), ahead);
    }

    static void promise28_aheadOfAny() {
        CobwebLibrary x = Edges.made(TWO);
        Edges.due("steps()", x.steps(), -1);
        x.torn(2);
        x.torn(-1);
        Edges.due("steps()", x.steps(), -1);
    }

    static void promise28_aTornOfNoneLeavesTheLatest() {
        CobwebLibrary x = Edges.made("book a 0 0;book b 3 2;");
        x.torn(1);
        x.torn(2);
        Edges.due("steps()", x.steps(), 5);
        x.move(1, 1, 1);
        Edges.due("steps() behind a move", x.steps(), 5);
        x.library();
        x.torn(0);
        Edges.due("steps() in a new library", x.steps(), 5);
    }

    static void promise28_nought() {
        CobwebLibrary x = Edges.made("book a 0 0;book b 3 2;");
        x.torn(1);
        x.torn(0);
        Edges.due("steps()", x.steps(), 0);
    }

    // ---- 29, 30

    private static void turned(CobwebLibrary x, int n, int laws, int turn) {
        Edges.due("turns(" + n + ")", x.turns(n), laws);
        Edges.due("turn() of turns(" + n + ")", x.turn(), turn);
    }

    static void promise29_notAsTold() {
        CobwebLibrary x = Edges.made(TWO);
        Edges.due("turns(0)", x.turns(0), -1);
        Edges.due("turns(-1)", x.turns(-1), -1);
        Edges.due("turns(4)", x.turns(4), -1);
        for (int n : Edges.FAR) {
            Edges.due("turns(" + n + ")", x.turns(n), -1);
        }
        Edges.due("turns(1)", x.turns(1), 0);
        Edges.due("turns(3)", x.turns(3), 0);
    }

    static void promise29_fewerDaysAreLeft() {
        CobwebLibrary x = Edges.late("book a 0 0;", 398);
        turned(x, 2, 0, 0);
        Edges.due("turns(3)", x.turns(3), -1);
        CobwebLibrary three = Edges.late("book a 0 0;", 397);
        Edges.due("turns(3)", three.turns(3), 0);
        CobwebLibrary over = Edges.late("book a 0 0;", 400);
        Edges.due("turns(1)", over.turns(1), -1);
    }

    static void promise29_noBooks() {
        CobwebLibrary x = new CobwebLibrary();
        for (int n = 1; n <= 3; n++) {
            turned(x, n, 0, -1);
        }
    }

    static void promise29_whoseTurnIsLast() {
        CobwebLibrary x = Edges.made("law 1;book a 0 0;book b 1 0;web a 9;web b 9;");
        turned(x, 1, 2, -1);
        turned(x, 2, 1, 0);
        turned(x, 3, 2, 0);
    }

    static void promise29_theThirdTurnIsTheFirstSides() {
        CobwebLibrary x = Edges.made("law 2;book a 0 0;book b 1 0;");
        turned(x, 2, 1, -1);
        turned(x, 3, 1, 0);
    }

    static void promise29_whatWasAskedForToday() {
        CobwebLibrary x = Edges.made("law 1;book a 0 0;book b 1 0;");
        x.ask(0);
        turned(x, 1, 1, -1);
        x.ask(1);
        turned(x, 1, 0, -1);
        turned(x, 2, 1, -1);
    }

    static void promise29_eightBooks() {
        CobwebLibrary x = Edges.made(eight("law 1;"));
        turned(x, 1, 8, -1);
        turned(x, 2, 7, 0);
        turned(x, 3, 8, 0);
    }

    static void promise29_behindALargerLibrary() {
        CobwebLibrary x = Edges.made(eight("law 1;web b 99;web c 99;"));
        turned(x, 3, 8, 0);
        Edges.library(x, "law 1;book z 0 0;");
        turned(x, 1, 1, -1);
        turned(x, 3, 1, 0);
        x.ask(0);
        turned(x, 1, 0, -1);
    }

    static void promise29_withoutDraughtsAndNothingIsDone() {
        CobwebLibrary x = Edges.made(TWO + "law 5;web a 4;draught 12;");
        String ahead = Edges.allOf(x);
        turned(x, 1, 1, 1);
        Edges.due("all", Edges.allOf(x), ahead);
        Edges.due("undo()", x.undo(), -1);
    }

    static void promise30_aheadOfAny() {
        CobwebLibrary x = Edges.made(TWO);
        Edges.due("turn()", x.turn(), -1);
        x.turns(0);
        x.turns(4);
        Edges.due("turn()", x.turn(), -1);
    }

    static void promise30_aTurnsOfNoneLeavesTheLatest() {
        CobwebLibrary x = Edges.made(TWO + "law 5;web a 4;");
        turned(x, 1, 1, 1);
        x.turns(4);
        x.turns(0);
        Edges.due("turn()", x.turn(), 1);
        x.library();
        Edges.due("turn() in a new library", x.turn(), 1);
        x.turns(1);
        Edges.due("turn() of nothing", x.turn(), -1);
    }

    static void promise30_ofLikeOnesTheLeast() {
        CobwebLibrary x = Edges.made(TWO + "law 50;");
        turned(x, 1, 0, 0);
        x.ask(0);
        turned(x, 1, 0, 1);
        x.ask(1);
        turned(x, 1, 0, -1);
    }

    // ---- 31, 32

    static void promise31_noSuchOne() {
        CobwebLibrary x = Edges.made(TWO);
        for (int b : NO_BOOKS) {
            Edges.due("catalogue(" + b + ")", x.catalogue(b), -1);
        }
    }

    static void promise31_namesOfOneAndOfSevenLetters() {
        CobwebLibrary x = Edges.made("law 50;book z 0 0;book physics 1 0;web physics 49;");
        Edges.due("card", Bench.card(x, 0), "z is in doubt by 0");
        Edges.due("card", Bench.card(x, 1), "physics is in doubt by 49");
        Edges.due("catalogue(1)", x.catalogue(1), 25);
    }

    static void promise31_websOfOneAndOfTwoDigits() {
        int[] webs = {1, 9, 10, 11, 19, 20, 90, 99};
        for (int web : webs) {
            CobwebLibrary x = Edges.made("law 50;book a 0 0;web a " + web + ";");
            Edges.due("card", Bench.card(x, 0), "a is " + (web < 50 ? "in doubt" : "law") + " by " + web);
        }
    }

    static void promise31_howItReads() {
        CobwebLibrary x = Edges.made("law 5;book a 0 0;book b 1 0;book c 2 0;book d 3 0;web a 4;web b 5;web c 9;web d 10;");
        Edges.due("card", Bench.card(x, 0), "a is in doubt by 4");
        Edges.due("card", Bench.card(x, 1), "b is law by 5");
        Edges.due("card", Bench.card(x, 2), "c is law by 9");
        Edges.due("card", Bench.card(x, 3), "d is dogma by 10");
    }

    static void promise32_aheadOfAny() {
        CobwebLibrary x = Edges.made(TWO);
        x.catalogue(2);
        Edges.due("byteAt(0)", x.byteAt(0), -1);
    }

    static void promise32_noneSuch() {
        CobwebLibrary x = Edges.made(TWO);
        int size = x.catalogue(0);
        Edges.due("catalogue(0)", size, 18);
        Edges.due("byteAt(0)", x.byteAt(0), 'a');
        Edges.due("byteAt(17)", x.byteAt(17), '0');
        Edges.due("byteAt(18)", x.byteAt(18), -1);
        Edges.due("byteAt(-1)", x.byteAt(-1), -1);
        for (int i : Edges.FAR) {
            Edges.due("byteAt(" + i + ")", x.byteAt(i), -1);
        }
    }

    static void promise32_aShorterCardBehindALongerOne() {
        CobwebLibrary x = Edges.made("book physics 0 0;book b 1 0;web b 10;");
        x.catalogue(0);
        Edges.due("catalogue(1)", x.catalogue(1), 14);
        Edges.due("byteAt(13)", x.byteAt(13), '0');
        Edges.due("byteAt(14)", x.byteAt(14), -1);
    }

    static void promise32_aCatalogueOfNoneLeavesTheLatest() {
        CobwebLibrary x = Edges.made(TWO);
        x.catalogue(1);
        x.catalogue(2);
        Edges.due("byteAt(0)", x.byteAt(0), 'b');
        x.days(5, 1);
        Edges.due("byteAt(17) days later", x.byteAt(17), '0');
        x.library();
        Edges.due("byteAt(0) in a new library", x.byteAt(0), 'b');
    }

    // ---- 33

    static void promise33_noSuchBook() {
        CobwebLibrary x = Edges.made(TWO);
        for (int b : NO_BOOKS) {
            Edges.due("odds(" + b + ", 1, 1)", x.odds(b, 1, 1), -1);
        }
    }

    static void promise33_notAsManySeedsAsTold() {
        CobwebLibrary x = Edges.made(TWO);
        Edges.due("odds(0, 0, 1)", x.odds(0, 0, 1), -1);
        Edges.due("odds(0, -1, 1)", x.odds(0, -1, 1), -1);
        Edges.due("odds(0, 31, 1)", x.odds(0, 31, 1), -1);
        for (int n : Edges.FAR) {
            Edges.due("odds(0, " + n + ", 1)", x.odds(0, n, 1), -1);
        }
        Edges.due("odds(0, 1, 1)", x.odds(0, 1, 1), 1);
        Edges.due("odds(0, 30, 1)", x.odds(0, 30, 1), 30);
    }

    static void promise33_behindThirtyDays() {
        Edges.due("law 30", Edges.made("book a 0 0;law 30;").odds(0, 9, 1), 9);
        Edges.due("law 31", Edges.made("book a 0 0;law 31;").odds(0, 9, 1), 0);
        CobwebLibrary x = Edges.made("book a 0 0;law 30;");
        x.ask(0);
        Edges.due("law 30, asked for today", x.odds(0, 9, 1), 0);
        CobwebLibrary y = Edges.made("book a 0 0;law 29;");
        y.ask(0);
        Edges.due("law 29, asked for today", y.odds(0, 9, 1), 9);
    }

    /** What odds() is due, by objects on which the days do go. */
    private static int oddsByDays(String text, int b, int n, int seed) {
        int laws = 0;
        for (int k = 0; k < n; k++) {
            CobwebLibrary x = Edges.made(text);
            x.days(30, seed + k);
            laws += Edges.book(x, b, 3) > 0 ? 1 : 0;
        }
        return laws;
    }

    static void promise33_seedsThatWrapAround() {
        String text = "book a 0 0;book b 1 0;book c 2 2;law 25;draught 2;";
        CobwebLibrary x = Edges.made(text);
        for (int seed : new int[] {Integer.MAX_VALUE, Integer.MAX_VALUE - 15, Integer.MIN_VALUE, -15, -1, 0}) {
            for (int b = 0; b < 3; b++) {
                int laws = oddsByDays(text, b, 30, seed);
                Edges.due("odds(" + b + ", 30, " + seed + ")", x.odds(b, 30, seed), laws);
                Edges.due("some, not all", laws > 0 && laws < 30, true);
            }
        }
    }

    static void promise33_eachDraught() {
        for (int draught = 0; draught <= 12; draught++) {
            String text = "book a 0 0;book b 1 0;law 9;web b 70;draught " + draught + ";";
            CobwebLibrary x = Edges.made(text);
            Edges.due("odds(0, 30, 5) by " + draught, x.odds(0, 30, 5), oddsByDays(text, 0, 30, 5));
            Edges.due("odds(1, 30, 5) by " + draught, x.odds(1, 30, 5), oddsByDays(text, 1, 30, 5));
        }
    }

    static void promise33_fewerThanThirtyDaysAreLeft() {
        CobwebLibrary x = Edges.late("book a 0 0;law 10;", 390);
        x.broom(0);
        Edges.due("ten days", x.odds(0, 5, 1), 5);
        x.ask(0);
        Edges.due("nine days of growing", x.odds(0, 5, 1), 0);
        CobwebLibrary over = Edges.late("book a 0 0;law 10;", 400);
        Edges.due("no days, law now", over.odds(0, 5, 1), 5);
        over.ask(0);
        Edges.due("no days, in doubt", over.odds(0, 5, 1), 0);
    }

    static void promise33_nothingIsDone() {
        CobwebLibrary x = Edges.made("book a 0 0;book b 1 0;draught 6;web a 40;");
        String ahead = Edges.allOf(x);
        x.odds(0, 30, 1);
        Edges.due("all", Edges.allOf(x), ahead);
        Edges.due("undo()", x.undo(), -1);
    }
}
