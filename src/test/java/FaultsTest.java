/** Texts with a fault, each with the place and the kind that are due, and texts just without one. */
public final class FaultsTest {
    private static final Bench BENCH = new Bench();
    private static final String TWO = "book a 0 0;book b 1 0;";

    public static void main(String[] args) {
        tokens();
        ends();
        numbers();
        told();
        many();
        lives();
        sentences();
        BENCH.finish("FaultsTest");
    }

    private static void library(String text, int place, int kind) {
        CobwebLibrary x = Bench.library("book old 1 1;");
        Bench.feed(x, text);
        BENCH.due("library of " + text, x.library(), -1 - place);
        BENCH.due("fault of " + text, x.fault(), kind);
        BENCH.due("the tape behind " + text, x.count(7), 0);
        BENCH.due("the library behind " + text, x.at(1, 1), 0);
    }

    private static void fine(String text, int lines) {
        CobwebLibrary x = new CobwebLibrary();
        Bench.feed(x, text);
        BENCH.due("library of " + text, x.library(), lines);
        BENCH.due("fault of " + text, x.fault(), 0);
    }

    private static void tokens() {
        BENCH.part("tokens");
        fine("", 0);
        fine(" \n ", 0);
        fine("book a 0 0;", 1);
        fine("book\na\n0\n0\n;", 1);
        fine("book a 0 0rare;".replace("0rare", "0 rare"), 1);
        fine("book a 00 000;", 1);
        fine("book abcdefg 0 0;", 1);
        fine("book is 0 0;book asks 1 0;", 2);
        fine("book daw 0 0;book bare 1 0;book jeb 2 0;book la 3 0;book lawn 0 1;book o 1 1;book quarrem 2 1;", 7);
        library("book abcdefgh 0 0;", 5, 1);
        library("book a 0 0000;", 9, 1);
        library("book a 0 0rare;", 9, 1);
        library("book a1 0 0;", 5, 1);
        library("book 1a 0 0;", 5, 1);
        library("book A 0 0;", 5, 1);
        library("book a 0 0.", 10, 1);
        library("book a 0 0\t;", 10, 1);
        library("book a 0 0\r;", 10, 1);
        library("book \u00e9 0 0;", 5, 1);
        library("\u0000", 0, 1);
        library(";", 0, 1);
        library("book a 0 0;;", 11, 1);
        library("books a 0 0;", 0, 1);
        library("rare;", 0, 1);
        library("ask a;", 0, 1);
        library("7;", 0, 1);
        library("book 7 0 0;", 5, 1);
        library("book a b 0;", 7, 1);
        library("book a 0 0 odd;", 11, 1);
        library("book a 0 0 rare rare;", 16, 1);
        library("book a 0 0 <;", 11, 1);
        library("law x;", 4, 1);
        library("web 3 3;", 4, 1);
        for (String word : ("shelves book rare web thread quarrel law spin line draught ask broom move day or and not "
            + "doubt lawful dogma asked follows dust bonds number").split(" ")) {
            library("book " + word + " 0 0;", 5, 1);
            library(TWO + "web " + word + " 1;", 26, 1);
        }
    }

    private static void ends() {
        BENCH.part("ends");
        library("book", 4, 1);
        library("book ", 5, 1);
        library("book a 0 0", 10, 1);
        library("book a 0 0 \n", 12, 1);
        library("shelves 3", 9, 1);
        fine(Bench.padded("law 9;", 900), 1);
        library(Bench.padded("law 9;", 901), 900, 1);
        library(Bench.padded("law 9;", 893) + " spin 2;", 900, 1);
        fine(Bench.padded("law 9;", 892) + " spin 2;", 2);
        library(Bench.padded("law 9;", 898) + "spinnet;", 898, 1);
        library(Bench.padded("law 9;", 898) + "spin 2;", 900, 1);
        library(Bench.padded("law 9;", 897) + "law;", 897, 3);
        library(Bench.padded("law 9;", 899) + "law", 899, 3);
        library(Bench.padded("law 9;spin ", 899) + "999;", 899, 2);
        library(Bench.padded("law 9;spin ", 899) + "9999;", 899, 1);
        library(Bench.padded("law 9;spin ", 899) + "5;", 900, 1);
        library(Bench.padded("law 9;", 899) + ";", 899, 1);
        library(Bench.padded("law 9;", 900) + ";", 900, 1);
        library(Bench.padded("law 99;", 940), 4, 2);
    }

    private static void numbers() {
        BENCH.part("numbers");
        library("shelves 1 4;", 8, 2);
        library("shelves 7 4;", 8, 2);
        library("shelves 4 1;", 10, 2);
        library("shelves 4 7;", 10, 2);
        fine("shelves 2 6;", 1);
        fine("shelves 6 2;book a 5 1;", 2);
        library("book a 4 0;", 7, 2);
        library("book a 0 4;", 9, 2);
        library("shelves 2 3;book a 2 0;", 19, 2);
        library("shelves 2 3;book a 1 3;", 21, 2);
        library(TWO + "web a 0;", 28, 2);
        library(TWO + "web a 100;", 28, 2);
        fine(TWO + "web a 99;web b 1;", 4);
        library(TWO + "thread a b 0;", 33, 2);
        library(TWO + "thread a b 100;", 33, 2);
        fine(TWO + "thread a b 99;", 3);
        library("law 0;", 4, 2);
        library("law 51;", 4, 2);
        library("spin 0;", 5, 2);
        library("spin 6;", 5, 2);
        library("line 0;", 5, 2);
        library("line 51;", 5, 2);
        library("draught 13;", 8, 2);
        fine("law 50;spin 5;line 50;draught 12;", 4);
        fine("law 1;spin 1;line 1;draught 0;", 4);
    }

    private static void told() {
        BENCH.part("told");
        library("book a 0 0;book a 1 0;", 16, 3);
        library(TWO + "web c 1;", 26, 3);
        library("web a 1;book a 0 0;", 4, 3);
        library(TWO + "web a 1;web a 2;", 34, 3);
        library(TWO + "thread a a 1;", 31, 3);
        library(TWO + "thread c a 1;", 29, 3);
        library(TWO + "thread a c 1;", 31, 3);
        library(TWO + "thread a b 1;thread b a 1;", 44, 3);
        library(TWO + "thread a b 1;thread a b 1;", 44, 3);
        library(TWO + "quarrel a a;", 32, 3);
        library(TWO + "quarrel a b;quarrel b a;", 44, 3);
        fine(TWO + "thread a b 1;quarrel b a;", 4);
        library("book a 0 0;book b 0 0;", 20, 3);
        library("shelves 4 4;shelves 4 4;", 12, 3);
        library("book a 0 0;shelves 4 4;", 11, 3);
        fine("law 3;shelves 4 4;book a 0 0;", 3);
        library("law 1;law 1;", 6, 3);
        library("spin 1;spin 1;", 7, 3);
        library("line 1;line 1;", 7, 3);
        library("draught 0;draught 0;", 10, 3);
    }

    private static void many() {
        BENCH.part("many");
        StringBuilder eight = new StringBuilder();
        for (int b = 0; b < 8; b++) {
            eight.append("book ").append((char) ('a' + b)).append(' ').append(b % 4).append(' ').append(b / 4).append(';');
        }
        fine(eight.toString(), 8);
        library(eight + "book i 0 2;", 88, 4);
        library(eight + "book", 88, 4);
        library(eight + "books", 88, 1);
        String rare = "book a 0 0 rare;book b 1 0 rare;book c 2 0 rare;";
        fine(rare + "book d 3 0;", 4);
        library(rare + "book d 3 0 rare;", 59, 4);
        library(rare + "book d 2 0 rare;", 57, 3);
    }

    private static void life(String text, int place, int kind) {
        CobwebLibrary x = Bench.library(TWO + "web a 5;");
        Bench.feed(x, "day 1;");
        x.life(0);
        Bench.feed(x, text);
        BENCH.due("life of " + text, x.life(1), -2 - place);
        BENCH.due("fault of " + text, x.fault(), kind);
        BENCH.due("the tape behind " + text, x.count(7), 0);
        BENCH.due("told(2) behind " + text, x.told(2), 1);
        BENCH.due("now(0) behind " + text, x.now(0), 0);
        BENCH.due("undo() behind " + text, x.undo(), -1);
    }

    private static void lives() {
        BENCH.part("lives");
        life("ask", 3, 1);
        life("ask c;", 4, 3);
        life("ask day;", 4, 1);
        life("ask 1;", 4, 1);
        life("ask a", 5, 1);
        life("book c 0 0;", 0, 1);
        life("a;", 0, 1);
        life("broom 6;", 6, 2);
        life("broom a;", 6, 1);
        life("move c 0 0;", 5, 3);
        life("move a 6 0;", 7, 2);
        life("move a 0 6;", 9, 2);
        life("move a 0;", 8, 1);
        life("day 0;", 4, 2);
        life("day 31;", 4, 2);
        life("day 1;day 1000;", 10, 1);
        StringBuilder forty = new StringBuilder();
        for (int k = 0; k < 40; k++) {
            forty.append("day 1;");
        }
        life(forty + "day 1;", 240, 4);
        life(forty + "day", 240, 4);
        life(forty + "dawn", 240, 1);
        life(forty + ";", 240, 1);
        life(Bench.padded("day 1;", 401), 400, 1);
        life(Bench.padded("day 1;", 399) + "day", 400, 1);
        life(Bench.padded("day 1;", 399) + "dawn", 399, 1);
        CobwebLibrary x = Bench.library(TWO);
        Bench.feed(x, forty.toString());
        BENCH.due("a life of 40 lines", x.life(0), -1);
        Bench.feed(x, Bench.padded("day 1;", 400));
        BENCH.due("a life of 400 bytes", x.life(0), -1);
        BENCH.due("its fault", x.fault(), 0);
    }

    private static void sentence(String text, int place, int kind) {
        CobwebLibrary x = Bench.library(TWO);
        Bench.feed(x, "number = 1");
        x.sentence();
        Bench.feed(x, text);
        BENCH.due("sentence of " + text, x.sentence(), -1 - place);
        BENCH.due("fault of " + text, x.fault(), kind);
        BENCH.due("the tape behind " + text, x.count(7), 0);
        BENCH.due("said(0) behind " + text, x.said(0), 1);
    }

    private static void spoken(String text, int ones) {
        CobwebLibrary x = Bench.library(TWO);
        Bench.feed(x, text);
        BENCH.due("sentence of " + text, x.sentence(), ones);
        BENCH.due("fault of " + text, x.fault(), 0);
    }

    private static void sentences() {
        BENCH.part("sentences");
        sentence("", 0, 1);
        sentence("  ", 2, 1);
        sentence("law", 0, 1);
        sentence("a", 0, 1);
        sentence("rare rare", 5, 1);
        sentence("rare;", 4, 1);
        sentence("rare or", 7, 1);
        sentence("rare and or rare", 9, 1);
        sentence("not", 3, 1);
        sentence("()", 1, 1);
        sentence("(rare", 5, 1);
        sentence("rare)", 4, 1);
        sentence("follows", 7, 1);
        sentence("follows c", 8, 3);
        sentence("follows rare", 8, 1);
        sentence("follows 1", 8, 1);
        sentence("dust 1", 5, 1);
        sentence("dust = a", 7, 1);
        sentence("dust = 1000", 7, 1);
        sentence("dust == 1", 6, 1);
        sentence("dust =", 6, 1);
        spoken("dust=999", 1);
        spoken("not(rare or follows a)and number<3", 5);
        nested();
        String ten = "rare or rare or rare or rare or rare or rare or rare or rare or rare or rare";
        String twenty = ten + " or\n" + ten;
        spoken(twenty, 20);
        sentence(twenty + " or rare", twenty.length() + 4, 4);
        sentence(twenty + " or law", twenty.length() + 4, 1);
        sentence(twenty + " or", twenty.length() + 3, 1);
        spoken(Bench.padded("rare", 200), 1);
        sentence(Bench.padded("rare", 201), 200, 1);
        sentence(Bench.padded("rare", 199) + "or rare", 200, 1);
        sentence(Bench.padded("rare", 199) + "rare", 199, 1);
    }

    private static void nested() {
        String seven = "not not not not not not not ";
        spoken(seven + "rare", 8);
        sentence(seven + "not rare", 32, 4);
        sentence(seven + "not law", 32, 1);
        sentence(seven + "not", 31, 1);
        spoken("(((((((rare or rare)))))))", 9);
        sentence("((((((((rare))))))))", 8, 4);
        sentence("((((((((", 8, 1);
        spoken("((((((not rare)))))) or not rare", 10);
    }
}
