/** Boundary cases of promises 36 and 37: a sentence, its faults, of which books it may be said. */
final class SentenceEdges {
    private static final String TWO = "book a 0 0;book b 1 0;";
    /** a and b have a line, c has none; a is in doubt, b law, c dogma and rare. */
    private static final String THREE = "book a 0 0;book b 1 0;book c 2 0 rare;web a 9;web b 10;web c 20;thread a b 3;thread b c 2;";

    private SentenceEdges() {
    }

    private static void faulty(String text, int place, int kind) {
        CobwebLibrary x = Edges.made(TWO);
        Edges.sentence(x, "number = 1");
        Edges.due("sentence of '" + text + "'", Edges.sentence(x, text), -1 - place);
        Edges.due("fault of '" + text + "'", x.fault(), kind);
        Edges.due("count(7)", x.count(7), 0);
        Edges.due("it stays", x.said(0), 1);
        Edges.due("it stays", x.said(-1), 1);
    }

    private static void fine(String text, int ones) {
        CobwebLibrary x = Edges.made(TWO);
        Edges.due("sentence of '" + text + "'", Edges.sentence(x, text), ones);
        Edges.due("fault of '" + text + "'", x.fault(), 0);
        Edges.due("count(7)", x.count(7), 0);
    }

    private static void said(CobwebLibrary x, String text, int... books) {
        Edges.due("sentence of '" + text + "'", Edges.sentence(x, text) > 0, true);
        Edges.due("said(-1) of '" + text + "'", x.said(-1), books.length);
        for (int k = 0; k < books.length; k++) {
            Edges.due("said(" + k + ") of '" + text + "'", x.said(k), books[k]);
        }
        Edges.due("said behind all of '" + text + "'", x.said(books.length), -1);
    }

    // ---- 36

    static void promise36_anEmptyText() {
        faulty("", 0, 1);
        faulty(" \n ", 3, 1);
    }

    static void promise36_asManyAs200Bytes() {
        fine(Bench.padded("rare", 200), 1);
        fine(Bench.padded("rare or ", 196) + "rare", 2);
        fine(Bench.padded("not", 195) + "doubt", 2);
    }

    static void promise36_moreThan200Bytes() {
        faulty(Bench.padded("rare", 201), 200, 1);
        faulty(Bench.padded("rare", 940), 200, 1);
        faulty(Bench.padded("rare or", 197) + "rare", 200, 1);
        faulty(Bench.padded("rare or", 199) + "rare", 200, 1);
        faulty(Bench.padded("rare or", 199) + "rares", 199, 1);
        faulty(Bench.padded("dust <", 199) + "10", 200, 1);
        faulty(Bench.padded("dust <", 199) + "1000", 199, 1);
        faulty(Bench.padded("rare", 200) + "?", 200, 1);
        faulty(Bench.padded("rare rare", 300), 5, 1);
    }

    static void promise36_theEndIsWhereTheBytesEnd() {
        faulty("not", 3, 1);
        faulty("rare or", 7, 1);
        faulty("rare and ", 9, 1);
        faulty("(rare", 5, 1);
        faulty("dust", 4, 1);
        faulty("dust <\n", 7, 1);
        faulty("follows", 7, 1);
    }

    static void promise36_aTokenThatCantCome() {
        for (String text : new String[] {"or", "and rare", "a", "law", "web", "3", ")", "<", ";", "ask a", "?"}) {
            faulty(text, 0, 1);
        }
        faulty("rare;", 4, 1);
        faulty("rare rare", 5, 1);
        faulty("rare not rare", 5, 1);
        faulty("rare (rare)", 5, 1);
        faulty("rare or or", 8, 1);
        faulty("()", 1, 1);
        faulty("(rare))", 6, 1);
        faulty("dust 3", 5, 1);
        faulty("dust < a", 7, 1);
        faulty("dust < > 3", 7, 1);
        faulty("dust < or or", 7, 1);
        faulty("dust or or", 5, 1);
        faulty("follows or or", 8, 1);
        faulty("dust < (3)", 7, 1);
        faulty("number = 1000", 9, 1);
        faulty("asked a", 6, 1);
        faulty("follows 1", 8, 1);
        faulty("follows (a)", 8, 1);
        faulty("follows rare", 8, 1);
    }

    static void promise36_bytesThatAreNoTokens() {
        for (int sign : new int[] {0, 1, 2, 9, 13, '.', ',', 'A', 'Z', 127, 128, 160, 255}) {
            faulty("" + (char) sign, 0, 1);
            faulty("rare" + (char) sign, 4, 1);
            faulty("dust<" + (char) sign, 5, 1);
            faulty("follows " + (char) sign, 8, 1);
        }
    }

    static void promise36_aBookThatWasNotTold() {
        faulty("follows c", 8, 3);
        faulty("rare or follows ab and", 16, 3);
    }

    static void promise36_howManyOnes() {
        fine("rare", 1);
        fine("not rare", 2);
        fine("(rare)", 2);
        fine("not (not rare)", 4);
        fine("rare or doubt and asked", 3);
        fine("follows a and not (dust > 9)", 4);
        fine("not(dust<3)or(number=0)and(rare)", 7);
    }

    static void promise36_twentyOnesAtMost() {
        String twenty = "rare or ".repeat(19) + "rare";
        fine(twenty, 20);
        faulty(twenty + " or rare", 160, 4);
        faulty(twenty + " or law", 160, 1);
        faulty(twenty + " or", 159, 1);
        faulty(twenty + " or (", 160, 4);
        faulty(twenty + " and not", 161, 4);
        String joined = "rare and ".repeat(19) + "rare";
        fine(joined, 20);
        faulty(joined + " and rare", 180, 4);
        faulty(joined + " or rare", 179, 4);
        String brackets = "(rare)or".repeat(9) + " rare";
        fine(brackets, 19);
        fine(brackets + " or rare", 20);
        faulty(brackets + " or not rare", 85, 4);
        faulty(brackets + " or (rare)", 82, 4);
    }

    static void promise36_eightWithinOneAnother() {
        fine("not ".repeat(7) + "rare", 8);
        faulty("not ".repeat(8) + "rare", 32, 4);
        faulty("not ".repeat(9) + "rare", 32, 4);
        faulty("not ".repeat(8), 32, 1);
        faulty("not ".repeat(8) + "or", 32, 1);
        fine("(".repeat(7) + "rare" + ")".repeat(7), 8);
        faulty("(".repeat(8) + "rare" + ")".repeat(8), 8, 4);
        faulty("(".repeat(9) + "rare" + ")".repeat(9), 8, 4);
        fine("(not ".repeat(3) + "(rare or rare)" + ")".repeat(3), 9);
        faulty("(not ".repeat(3) + "(not rare)" + ")".repeat(3), 20, 4);
        fine("((((((not rare)))))) and ((((((not rare))))))", 16);
        faulty("((((((rare and not not rare))))))", 23, 4);
    }

    static void promise36_withAFaultItStays() {
        CobwebLibrary x = Edges.made(TWO);
        Edges.due("sentence()", x.sentence(), -1);
        Edges.due("said(-1) without one", x.said(-1), -1);
        Edges.sentence(x, "number = 0");
        Edges.sentence(x, "rare and number = 1 or");
        Edges.due("said(0)", x.said(0), 0);
        Edges.sentence(x, "number = 1");
        Edges.due("said(0) of the next one", x.said(0), 1);
    }

    static void promise36_theFullRowOfJoints() {
        CobwebLibrary x = Edges.made(TWO);
        String row = "not rare" + " and not rare".repeat(9);
        Edges.due("sentence()", Edges.sentence(x, row), 20);
        Edges.due("said(-1)", x.said(-1), 2);
        Edges.due("sentence()", Edges.sentence(x, "rare or ".repeat(18) + "number = 1 or rare"), 20);
        Edges.due("said(-1)", x.said(-1), 1);
        Edges.due("said(0)", x.said(0), 1);
    }

    static void promise36_aShorterOneBehindALongerOne() {
        CobwebLibrary x = Edges.made(TWO);
        said(x, "not number = 0", 1);
        said(x, "number = 0", 0);
        said(x, "rare or not not number = 0", 0);
        said(x, "not rare", 0, 1);
        said(x, "rare");
    }

    // ---- 37

    static void promise37_thereIsNoSentence() {
        CobwebLibrary x = Edges.made(TWO);
        Edges.due("said(-1)", x.said(-1), -1);
        Edges.due("said(0)", x.said(0), -1);
        Edges.sentence(x, "not rare");
        Edges.due("said(-1)", x.said(-1), 2);
        Edges.library(x, TWO);
        Edges.due("said(-1) in a new library", x.said(-1), -1);
        Edges.due("said(0) in a new library", x.said(0), -1);
    }

    static void promise37_noneSuch() {
        CobwebLibrary x = Edges.made(TWO);
        Edges.sentence(x, "not rare");
        Edges.due("said(0)", x.said(0), 0);
        Edges.due("said(1)", x.said(1), 1);
        Edges.due("said(2)", x.said(2), -1);
        Edges.due("said(-2)", x.said(-2), -1);
        for (int k : Edges.FAR) {
            Edges.due("said(" + k + ")", x.said(k), -1);
        }
    }

    static void promise37_ofNoBook() {
        CobwebLibrary x = Edges.made(TWO);
        said(x, "rare");
        CobwebLibrary none = new CobwebLibrary();
        said(none, "not rare");
    }

    static void promise37_ofAllEight() {
        StringBuilder text = new StringBuilder();
        for (int b = 0; b < 8; b++) {
            text.append("book ").append((char) ('a' + b)).append(' ').append(b % 4).append(' ').append(b / 4).append(';');
        }
        CobwebLibrary x = Edges.made(text.toString());
        said(x, "doubt", 0, 1, 2, 3, 4, 5, 6, 7);
        said(x, "dust = 0", 0, 1, 2, 3, 4, 5, 6, 7);
        said(x, "bonds = 0", 0, 1, 2, 3, 4, 5, 6, 7);
        said(x, "not follows h", 0, 1, 2, 3, 4, 5, 6);
        said(x, "number > 6", 7);
        said(x, "number > 7");
        said(x, "number < 1", 0);
        said(x, "number < 0");
    }

    static void promise37_howItReads() {
        CobwebLibrary x = Edges.made(THREE);
        said(x, "doubt", 0);
        said(x, "lawful", 1);
        said(x, "dogma", 2);
        said(x, "rare", 2);
        x.days(1, 1);
        said(x, "doubt");
        said(x, "lawful", 0, 1);
    }

    static void promise37_askedForToday() {
        CobwebLibrary x = Edges.made(THREE);
        said(x, "asked");
        x.ask(2);
        said(x, "asked", 2);
        x.days(1, 1);
        said(x, "asked");
    }

    static void promise37_followsFromItselfToo() {
        CobwebLibrary x = Edges.made(THREE);
        said(x, "follows a", 0, 1);
        said(x, "follows c", 2);
        x.days(1, 1);
        said(x, "follows c", 0, 1, 2);
    }

    static void promise37_belowAlikeAbove() {
        CobwebLibrary x = Edges.made(THREE);
        said(x, "dust < 10", 0);
        said(x, "dust = 10", 1);
        said(x, "dust > 10", 2);
        said(x, "dust > 20");
        said(x, "dust < 9");
        said(x, "dust < 999", 0, 1, 2);
        said(x, "dust = 020", 2);
        said(x, "bonds = 0", 2);
        said(x, "bonds > 0", 0, 1);
        said(x, "bonds < 1", 2);
        said(x, "number = 2", 2);
    }

    static void promise37_notAheadOfAndAheadOfOr() {
        CobwebLibrary x = Edges.made(THREE);
        said(x, "rare or doubt and lawful", 2);
        said(x, "(rare or doubt) and lawful");
        said(x, "doubt and lawful or rare", 2);
        said(x, "not rare and doubt", 0);
        said(x, "not (rare and doubt)", 0, 1, 2);
        said(x, "not rare or rare", 0, 1, 2);
        said(x, "not not not rare", 0, 1);
    }

    static void promise37_byWhatIsSoNow() {
        CobwebLibrary x = Edges.made(THREE);
        Edges.sentence(x, "lawful");
        Edges.due("said(0)", x.said(0), 1);
        x.ask(1);
        Edges.due("said(-1)", x.said(-1), 0);
        x.undo();
        Edges.due("said(0)", x.said(0), 1);
    }
}
