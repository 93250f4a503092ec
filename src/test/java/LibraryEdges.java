/** Boundary cases of promises 4 and 5: tokens, the lines of a library, their faults. */
final class LibraryEdges {
    private static final String TWO = "book a 0 0;book b 1 0;";
    private static final String WORDS = "shelves book rare web thread quarrel law spin line draught ask broom move day or and "
        + "not doubt lawful dogma asked follows dust bonds number";

    private LibraryEdges() {
    }

    /** Just at the edge both ends are fine, one beyond each is a fault of its number. */
    private static void range(String ahead, int least, int most, String behind) {
        Edges.fine(ahead + least + behind, (ahead + behind).split(";").length);
        Edges.fine(ahead + most + behind, (ahead + behind).split(";").length);
        Edges.faulty(ahead + (most + 1) + behind, ahead.length(), 2);
        Edges.faulty(ahead + "999" + behind, ahead.length(), 2);
        if (least > 0) {
            Edges.faulty(ahead + (least - 1) + behind, ahead.length(), 2);
        }
    }

    private static String eightBooks() {
        StringBuilder s = new StringBuilder();
        for (int b = 0; b < 8; b++) {
            s.append("book ").append((char) ('a' + b)).append(' ').append(b % 4).append(' ').append(b / 4).append(';');
        }
        return s.toString();
    }

    // ---- tokens

    static void promise04_wordsHaveOneToSevenLetters() {
        Edges.fine("book z 0 0;", 1);
        Edges.fine("book zyxwvut 0 0;", 1);
        Edges.faulty("book zyxwvuts 0 0;", 5, 1);
        Edges.faulty("zyxwvuts", 0, 1);
    }

    static void promise04_numbersHaveOneToThreeDigits() {
        Edges.fine("law 7;", 1);
        Edges.fine("law 050;", 1);
        Edges.faulty("law 0050;", 4, 1);
        Edges.faulty("law 9999999999999999;", 4, 1);
        Edges.faulty("law 999;", 4, 2);
    }

    static void promise04_aWordGoesOnAsLongAsLettersAndDigitsDo() {
        Edges.faulty("book a1 0 0;", 5, 1);
        Edges.faulty("book a 0 0rare;", 9, 1);
        Edges.faulty("law7;", 0, 1);
        Edges.faulty("law 7spin 1;", 4, 1);
        Edges.faulty("book 1a 0 0;", 5, 1);
        Edges.faulty("lawspin 1;", 0, 1);
    }

    static void promise04_blanksBetweenTokensOrNot() {
        Edges.fine("law 7;spin 2;", 2);
        Edges.fine("  \n law\n\n7 \n;   spin  2\n;\n\n", 2);
        Edges.fine("\nlaw 7;\n", 1);
    }

    static void promise04_blanksAre32And10Alone() {
        for (int sign = 0; sign < 256; sign++) {
            boolean isBlank = sign == 32 || sign == 10;
            String text = "law 7" + (char) sign + ";";
            boolean isDigit = sign >= '0' && sign <= '9';
            boolean isLetter = sign >= 'a' && sign <= 'z';
            if (isBlank) {
                Edges.fine(text, 1);
            } else if (isDigit) {
                Edges.faulty(text, 4, 2);
            } else if (isLetter) {
                Edges.faulty(text, 4, 1);
            } else {
                Edges.faulty(text, sign == ';' ? 6 : 5, 1);
            }
        }
    }

    static void promise04_bytesThatAreNoTokens() {
        for (int sign = 0; sign < 256; sign++) {
            boolean isBlank = sign == 32 || sign == 10;
            boolean isDigit = sign >= '0' && sign <= '9';
            boolean isLetter = sign >= 'a' && sign <= 'z';
            if (!isBlank && !isDigit && !isLetter) {
                Edges.faulty("" + (char) sign, 0, 1);
                Edges.faulty("law 7;" + (char) sign, 6, 1);
                Edges.faulty("law " + (char) sign + ";", 4, 1);
                Edges.faulty("book " + (char) sign + " 0 0;", 5, 1);
            }
        }
    }

    static void promise04_wordsAreOfSmallLettersAlone() {
        Edges.faulty("Law 7;", 0, 1);
        Edges.faulty("book A 0 0;", 5, 1);
        Edges.faulty("book aB 0 0;", 6, 1);
        Edges.faulty("book ` 0 0;", 5, 1);
        Edges.faulty("book { 0 0;", 5, 1);
        Edges.faulty("law /;", 4, 1);
        Edges.faulty("law :;", 4, 1);
        Edges.faulty("book \u00e9 0 0;", 5, 1);
    }

    // ---- the text's length and end

    static void promise04_anEmptyText() {
        CobwebLibrary x = Edges.made("shelves 5 6;law 3;spin 2;line 7;draught 4;book a 4 5;");
        Edges.due("library()", x.library(), 0);
        int[] counts = {0, 4, 4, 10, 1, 3, 0, 0};
        for (int what = 0; what < 8; what++) {
            Edges.due("count(" + what + ")", x.count(what), counts[what]);
        }
        Edges.fine(" \n ", 0);
    }

    static void promise04_howManyLines() {
        Edges.fine("law 7;", 1);
        Edges.fine("shelves 2 2;book a 0 0;web a 1;law 7;spin 1;line 1;draught 1;", 7);
    }

    static void promise04_asManyAs900Bytes() {
        Edges.fine(Bench.padded("law 7;", 900), 1);
        Edges.fine(Bench.padded("law 7;", 899), 1);
        Edges.fine(Bench.padded("law 7;", 893) + "spin 2;", 2);
    }

    static void promise04_moreThan900Bytes() {
        Edges.faulty(Bench.padded("law 7;", 901), 900, 1);
        Edges.faulty(Bench.padded("law 7;", 940), 900, 1);
        Edges.faulty(Bench.padded("", 901), 900, 1);
        Edges.faulty(Bench.padded("law 7;", 900) + ";", 900, 1);
        Edges.faulty(Bench.padded("law 7;", 894) + "spin 2;", 900, 1);
    }

    static void promise04_moreThan900BytesWithAFaultAhead() {
        Edges.faulty(Bench.padded("law 77;", 940), 4, 2);
        Edges.faulty(Bench.padded("law 7;law 7;", 940), 6, 3);
        Edges.faulty(Bench.padded("law 7;", 899) + "? ", 899, 1);
    }

    static void promise04_tokensThatBeginAheadOf900AreReadWhole() {
        Edges.faulty(Bench.padded("law ", 899) + "50;", 900, 1);
        Edges.faulty(Bench.padded("law ", 899) + "51;", 899, 2);
        Edges.faulty(Bench.padded("law ", 899) + "0007;", 899, 1);
        Edges.faulty(Bench.padded("law 7;", 899) + "law", 899, 3);
        Edges.faulty(Bench.padded("law 7;", 899) + "lawn", 899, 1);
        Edges.faulty(Bench.padded("law 7;", 899) + "spin 2;", 900, 1);
        Edges.faulty(Bench.padded("law 7;", 896) + "spinnets", 896, 1);
    }

    static void promise04_oneTokenOfAllTheTape() {
        Edges.faulty("a".repeat(940), 0, 1);
        Edges.faulty("7".repeat(940), 0, 1);
        Edges.faulty("law " + "7".repeat(936), 4, 1);
        Edges.faulty(Bench.padded("law 7;", 899) + "a".repeat(41), 899, 1);
    }

    static void promise04_theEndIsWhereTheBytesEnd() {
        Edges.faulty("law", 3, 1);
        Edges.faulty("law 7", 5, 1);
        Edges.faulty("law 7  \n", 8, 1);
        Edges.faulty("book a 0 0 rare", 15, 1);
        Edges.faulty(Bench.padded("law 7", 900), 900, 1);
    }

    static void promise04_aFaultAtPlaceNoughtAnswersMinusOne() {
        CobwebLibrary x = new CobwebLibrary();
        Edges.due("library()", Edges.library(x, ";"), -1);
        Edges.due("fault()", x.fault(), 1);
    }

    // ---- which fault

    static void promise04_theFirstFaultAlongTheText() {
        Edges.faulty("law 51;law 1;web q 1;?", 4, 2);
        Edges.faulty(TWO + "web q 0;spin 9;", 26, 3);
        Edges.faulty("book a 9 9;book a 0 0;", 7, 2);
    }

    static void promise04_ofOneTokenTheLeastFault() {
        Edges.faulty("book a 0 0;shelves", 11, 3);
        Edges.faulty("book a 1 1;book b 1 4;", 20, 2);
        Edges.faulty("shelves 2 2;book a 1 1;book b 1 1;", 32, 3);
        Edges.faulty(eightBooks() + "books", 88, 1);
        Edges.faulty(eightBooks() + "web 1", 92, 1);
    }

    static void promise04_aTokenThatCantCome() {
        for (String text : new String[] {"rare;", "ask a;", "day 1;", "or;", "number;", "7;", "(;", "a;", ";", "<"}) {
            Edges.faulty(text, 0, 1);
        }
        Edges.faulty("law 7 7;", 6, 1);
        Edges.faulty("law a;", 4, 1);
        Edges.faulty("law ;", 4, 1);
        Edges.faulty("law 7;;", 6, 1);
        Edges.faulty("book a 0 0 0;", 11, 1);
        Edges.faulty("book a 0 0 rare rare;", 16, 1);
        Edges.faulty("book a 0 0 law;", 11, 1);
        Edges.faulty("book a b 0;", 7, 1);
        Edges.faulty("book a 0 b;", 9, 1);
        Edges.faulty("book a 0;", 8, 1);
        Edges.faulty("book 3 0 0;", 5, 1);
        Edges.faulty(TWO + "web a b;", 28, 1);
        Edges.faulty(TWO + "thread a 1;", 31, 1);
        Edges.faulty(TWO + "thread a b;", 32, 1);
        Edges.faulty(TWO + "quarrel a b 1;", 34, 1);
        Edges.faulty(TWO + "quarrel a;", 31, 1);
        Edges.faulty("shelves 4;", 9, 1);
    }

    // ---- the lines

    static void promise04_shelvesFromTwoToSix() {
        range("shelves ", 2, 6, " 4;");
        range("shelves 4 ", 2, 6, ";");
    }

    static void promise04_shelvesOnce() {
        Edges.faulty("shelves 4 4;shelves 4 4;", 12, 3);
        Edges.faulty("shelves 2 3;law 7;shelves 4 4;", 18, 3);
    }

    static void promise04_shelvesAheadOfAllBooks() {
        Edges.faulty("book a 0 0;shelves 4 4;", 11, 3);
        Edges.faulty("shelves 4 4;book a 0 0;shelves 4 4;", 23, 3);
        Edges.fine("law 7;spin 1;shelves 2 2;book a 1 1;", 4);
    }

    static void promise04_withoutShelvesFourByFour() {
        CobwebLibrary x = Edges.made("book a 3 3;");
        Edges.due("count(1)", x.count(1), 4);
        Edges.due("count(2)", x.count(2), 4);
        range("book a ", 0, 3, " 0;");
        range("book a 0 ", 0, 3, ";");
    }

    static void promise04_cellsUpToTheSidesLessOne() {
        for (int side = 2; side <= 6; side++) {
            range("shelves " + side + " 4;book a ", 0, side - 1, " 0;");
            range("shelves 4 " + side + ";book a 0 ", 0, side - 1, ";");
        }
    }

    static void promise04_oneBookInACell() {
        Edges.faulty("book a 0 0;book b 0 0;", 20, 3);
        Edges.faulty("book a 3 2;book b 2 3;book c 3 2 rare;", 31, 3);
        Edges.fine("book a 3 2;book b 2 3;book c 2 2;book d 3 3;", 4);
    }

    static void promise04_aNameIsNoneOfTheWords() {
        for (String word : WORDS.split(" ")) {
            Edges.faulty("book " + word + " 0 0;", 5, 1);
            if (word.length() < 7) {
                Edges.fine("book " + word + "x 0 0;", 1);
            }
            Edges.fine("book x" + word.substring(1) + " 0 0;", 1);
            Edges.fine("book " + word.substring(1) + " 0 0;", 1);
        }
    }

    static void promise04_aNameToldTwice() {
        Edges.faulty("book a 0 0;book a 1 0;", 16, 3);
        Edges.faulty("book abcdefg 0 0;book abcdef 1 0;book abcdefg 2 0;", 38, 3);
        Edges.fine("book a 0 0;book aa 1 0;book aaa 2 0;book b 3 0;", 4);
    }

    static void promise04_aNameNotTold() {
        Edges.faulty("web a 1;", 4, 3);
        Edges.faulty("web a 1;book a 0 0;", 4, 3);
        Edges.faulty(TWO + "web aa 1;", 26, 3);
        Edges.faulty(TWO + "thread q a 1;", 29, 3);
        Edges.faulty(TWO + "thread a q 1;", 31, 3);
        Edges.faulty(TWO + "quarrel q a;", 30, 3);
        Edges.faulty(TWO + "quarrel a q;", 32, 3);
        CobwebLibrary x = Edges.made("book gone 0 0;");
        Edges.due("a name of the library ahead", Edges.library(x, "web gone 1;"), -5);
    }

    static void promise04_eightBooksAtMost() {
        Edges.fine(eightBooks(), 8);
        Edges.faulty(eightBooks() + "book i 0 2;", 88, 4);
        Edges.faulty(eightBooks() + "book", 88, 4);
        Edges.fine(eightBooks() + "web h 1;", 9);
    }

    static void promise04_aNameNotToldAmongEightBooks() {
        Edges.faulty(eightBooks() + "web i 1;", 92, 3);
        Edges.faulty(eightBooks() + "quarrel a i;", 98, 3);
        Edges.faulty(eightBooks() + "thread h i 1;", 97, 3);
    }

    static void promise04_eightNamesOfSevenLetters() {
        StringBuilder text = new StringBuilder();
        for (int b = 0; b < 8; b++) {
            text.append("book ").append("sevenl").append((char) ('h' - b)).append(' ').append(b % 4).append(' ');
            text.append(b / 4).append(';');
        }
        CobwebLibrary x = Edges.made(text.toString());
        for (int b = 0; b < 8; b++) {
            Edges.due("card", Bench.card(x, b), "sevenl" + (char) ('h' - b) + " is in doubt by 0");
        }
    }

    static void promise04_booksAreNumberedFromNought() {
        CobwebLibrary x = Edges.made(eightBooks());
        for (int b = 0; b < 8; b++) {
            Edges.due("at", x.at(b % 4, b / 4), b);
        }
    }

    static void promise04_threeRareOnesAtMost() {
        String three = "book a 0 0 rare;book b 1 0 rare;book c 2 0 rare;";
        Edges.fine(three + "book d 3 0;", 4);
        Edges.faulty(three + "book d 3 0 rare;", 59, 4);
        Edges.faulty(three + "book d 3 0;book e 0 1 rare;", 70, 4);
    }

    static void promise04_websFromOneTo99() {
        range(TWO + "web a ", 1, 99, ";");
    }

    static void promise04_eachWebOnce() {
        Edges.faulty(TWO + "web a 1;web a 1;", 34, 3);
        Edges.faulty(TWO + "web a 1;web b 2;web a", 42, 3);
        Edges.fine(TWO + "web b 1;web a 1;", 4);
    }

    static void promise04_noWebWithout() {
        CobwebLibrary x = Edges.made(TWO + "web b 99;");
        Edges.due("book(0, 2)", Edges.book(x, 0, 2), 0);
        Edges.due("book(1, 2)", Edges.book(x, 1, 2), 99);
    }

    static void promise04_threadsFromOneTo99() {
        range(TWO + "thread a b ", 1, 99, ";");
    }

    static void promise04_threadsOfUnlikeBooks() {
        Edges.faulty(TWO + "thread a a 1;", 31, 3);
        Edges.faulty(TWO + "thread b b 0;", 31, 3);
    }

    static void promise04_eachThreadOnce() {
        Edges.faulty(TWO + "thread a b 1;thread a b 1;", 44, 3);
        Edges.faulty(TWO + "thread a b 1;thread b a 2;", 44, 3);
        Edges.fine(TWO + "book c 2 0;thread a b 1;thread b c 1;thread c a 1;", 6);
    }

    static void promise04_noThreadWithout() {
        CobwebLibrary x = Edges.made(TWO + "book c 2 0;thread c a 99;");
        Edges.due("thread(0, 1)", x.thread(0, 1), 0);
        Edges.due("thread(1, 2)", x.thread(1, 2), 0);
        Edges.due("thread(0, 2)", x.thread(0, 2), 99);
    }

    static void promise04_quarrelsOfUnlikeBooks() {
        Edges.faulty(TWO + "quarrel a a;", 32, 3);
    }

    static void promise04_eachQuarrelOnce() {
        Edges.faulty(TWO + "quarrel a b;quarrel a b;", 44, 3);
        Edges.faulty(TWO + "quarrel a b;quarrel b a;", 44, 3);
        Edges.fine(TWO + "quarrel a b;thread a b 1;", 4);
        Edges.fine(TWO + "thread b a 1;quarrel a b;", 4);
    }

    static void promise04_lawFromOneTo50Once() {
        range("law ", 1, 50, ";");
        Edges.faulty("law 10;spin 1;law 10;", 14, 3);
    }

    static void promise04_spinFromOneTo5Once() {
        range("spin ", 1, 5, ";");
        Edges.faulty("spin 1;law 10;spin 1;", 14, 3);
    }

    static void promise04_lineFromOneTo50Once() {
        range("line ", 1, 50, ";");
        Edges.faulty("line 3;law 10;line 3;", 14, 3);
    }

    static void promise04_draughtFromNoughtTo12Once() {
        range("draught ", 0, 12, ";");
        Edges.faulty("draught 0;draught 0;", 10, 3);
    }

    static void promise04_withoutTheLines() {
        CobwebLibrary x = Edges.made("law 1;spin 2;line 1;draught 1;");
        Edges.library(x, TWO);
        int[] counts = {2, 4, 4, 10, 1, 3, 0};
        for (int what = 0; what < 7; what++) {
            Edges.due("count(" + what + ")", x.count(what), counts[what]);
        }
    }

    static void promise04_linesInWhateverOrder() {
        CobwebLibrary x = Edges.made("book a 0 0;web a 9;law 9;book b 1 0;thread b a 2;line 2;spin 2;quarrel b a;draught 1;");
        Edges.due("book(0, 3)", Edges.book(x, 0, 3), 1);
        Edges.due("book(0, 7)", Edges.book(x, 0, 7), 2);
    }

    // ---- the library is new, or stays

    static void promise04_aNewLibraryIsAtItsBeginning() {
        CobwebLibrary x = Edges.made(TWO + "thread a b 9;web b 4;");
        Edges.sentence(x, "rare");
        x.ask(0);
        x.days(4, 1);
        x.ask(1);
        Edges.due("library()", Edges.library(x, TWO + "thread a b 5;web a 2;"), 4);
        int[] nows = {0, 0, 0, 0, 2, 5, 0};
        for (int what = 0; what < 7; what++) {
            Edges.due("now(" + what + ")", x.now(what), nows[what]);
        }
        Edges.due("book(0, 6)", Edges.book(x, 0, 6), 0);
        Edges.due("said(-1)", x.said(-1), -1);
        Edges.due("undo()", x.undo(), -1);
    }

    static void promise04_aNewLibraryHasNothingOfTheOneAhead() {
        CobwebLibrary x = Edges.made("book a 0 0 rare;book b 1 0 rare;web a 50;web b 50;quarrel a b;thread a b 9;");
        Edges.library(x, TWO);
        Edges.due("book(0, 4)", Edges.book(x, 0, 4), 0);
        Edges.due("book(1, 2)", Edges.book(x, 1, 2), 0);
        Edges.due("thread(0, 1)", x.thread(0, 1), 0);
        x.days(30, 1);
        Edges.due("quarrels()", x.quarrels(), 0);
    }

    static void promise04_withAFaultTheLibraryStays() {
        CobwebLibrary x = Edges.made(TWO + "thread a b 9;web b 4;quarrel a b;");
        Edges.sentence(x, "number = 1");
        x.days(3, 1);
        x.ask(0);
        String ahead = Edges.allOf(x);
        Edges.due("library()", Edges.library(x, "shelves 2 2;law 3;spin 3;line 9;draught 9;book z 1 1 rare;web z 5;;"), -67);
        Edges.due("all", Edges.allOf(x), ahead);
        Edges.due("undo()", x.undo(), 1);
    }

    static void promise04_theTapeIsEmptyThen() {
        CobwebLibrary x = new CobwebLibrary();
        Edges.library(x, TWO);
        Edges.due("count(7)", x.count(7), 0);
        Edges.library(x, TWO + "?");
        Edges.due("count(7) behind a fault", x.count(7), 0);
        Edges.due("library() of no bytes", x.library(), 0);
        Edges.due("count(0)", x.count(0), 0);
    }

    // ---- which kind

    static void promise05_noughtAheadOfAny() {
        CobwebLibrary x = new CobwebLibrary();
        Edges.due("fault()", x.fault(), 0);
        x.asked(1);
        x.spun();
        x.days(1, 1);
        Edges.due("fault()", x.fault(), 0);
    }

    static void promise05_noughtWithoutOne() {
        CobwebLibrary x = new CobwebLibrary();
        Edges.library(x, "law 0;");
        Edges.due("fault()", x.fault(), 2);
        x.library();
        Edges.due("fault() behind a library without", x.fault(), 0);
        Edges.library(x, "law 0;");
        x.life(0);
        Edges.due("fault() behind a life without", x.fault(), 0);
        Edges.library(x, "law 0;");
        Edges.sentence(x, "rare");
        Edges.due("fault() behind a sentence without", x.fault(), 0);
    }

    static void promise05_eachKind() {
        CobwebLibrary x = new CobwebLibrary();
        Edges.library(x, "?");
        Edges.due("fault()", x.fault(), 1);
        Edges.library(x, "law 0;");
        Edges.due("fault()", x.fault(), 2);
        Edges.library(x, "web a 1;");
        Edges.due("fault()", x.fault(), 3);
        Edges.library(x, eightBooks() + "book");
        Edges.due("fault()", x.fault(), 4);
    }

    static void promise05_theLatestOfTheThree() {
        CobwebLibrary x = new CobwebLibrary();
        Edges.library(x, "law 0;");
        Edges.life(x, 0, "ask a;");
        Edges.due("fault() of life()", x.fault(), 3);
        x.sentence();
        Edges.due("fault() of sentence()", x.fault(), 1);
        Edges.life(x, 1, "day 0;");
        Edges.due("fault() of life()", x.fault(), 2);
    }

    static void promise05_aLifeOfMinus1000LeavesIt() {
        CobwebLibrary x = new CobwebLibrary();
        Edges.library(x, "law 0;");
        Edges.due("life(2)", Edges.life(x, 2, "?"), -1000);
        Edges.due("fault()", x.fault(), 2);
        Edges.due("life(-1)", x.life(-1), -1000);
        Edges.due("fault()", x.fault(), 2);
    }

    static void promise05_aWrongLifeHasNoFault() {
        CobwebLibrary x = new CobwebLibrary();
        Edges.library(x, "law 0;");
        Edges.due("life(0)", Edges.life(x, 0, "broom 5;"), 0);
        Edges.due("fault()", x.fault(), 0);
    }

    static void promise05_otherCallsLeaveIt() {
        CobwebLibrary x = Edges.made(TWO);
        Edges.library(x, "law 0;");
        x.ask(0);
        x.days(3, 1);
        x.asked(1);
        x.spun();
        x.undo();
        x.image(0);
        x.restore(0);
        Edges.due("fault()", x.fault(), 2);
    }
}
