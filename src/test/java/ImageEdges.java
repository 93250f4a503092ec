/** Boundary cases of promises 38 and 39: images kept and restored. */
final class ImageEdges {
    private static final String THREE = "shelves 5 3;law 6;spin 2;line 4;draught 3;book a 0 0 rare;book b 3 0;book c 4 2;"
        + "web b 8;thread a b 7;quarrel a b;";

    private ImageEdges() {
    }

    static void promise38_noSuchPlace() {
        CobwebLibrary x = Edges.made(THREE);
        Edges.due("image(-1)", x.image(-1), false);
        Edges.due("image(2)", x.image(2), false);
        for (int k : Edges.FAR) {
            Edges.due("image(" + k + ")", x.image(k), false);
        }
        Edges.due("restore(0): nothing was kept", x.restore(0), false);
        Edges.due("restore(1): nothing was kept", x.restore(1), false);
        Edges.due("image(0)", x.image(0), true);
        Edges.due("image(1)", x.image(1), true);
    }

    static void promise38_allThatIsSo() {
        CobwebLibrary x = Edges.made(THREE);
        Edges.sentence(x, "number = 2");
        x.days(3, 1);
        x.ask(1);
        x.move(2, 1, 1);
        String kept = Edges.allOf(x);
        String card = Bench.card(x, 2);
        x.image(1);
        Edges.library(x, "book z 0 0;");
        x.restore(1);
        Edges.due("all", Edges.allOf(x), kept);
        Edges.due("at(1, 1)", x.at(1, 1), 2);
        Edges.due("card", Bench.card(x, 2), card);
        Edges.due("life by the names kept", Edges.life(x, 0, "ask a;ask c;"), -1);
    }

    static void promise38_quarrelsToo() {
        CobwebLibrary x = Edges.made("law 1;book a 0 0;book b 1 1;quarrel a b;");
        x.image(0);
        Edges.library(x, "law 1;book a 0 0;book b 1 1;");
        x.restore(0);
        x.days(1, 1);
        Edges.due("quarrels()", x.quarrels(), 1);
    }

    static void promise38_anImageOfTheSamePlaceAgain() {
        CobwebLibrary x = Edges.made(THREE);
        x.image(0);
        x.days(5, 1);
        x.image(0);
        x.days(5, 1);
        x.restore(0);
        Edges.due("now(0)", x.now(0), 5);
    }

    static void promise38_theTwoPlacesAreApart() {
        CobwebLibrary x = Edges.made(THREE);
        x.image(0);
        x.days(5, 1);
        x.image(1);
        x.restore(0);
        Edges.due("now(0)", x.now(0), 0);
        x.restore(1);
        Edges.due("now(0)", x.now(0), 5);
        x.restore(0);
        Edges.due("now(0)", x.now(0), 0);
    }

    static void promise38_whatIsKeptStaysAsItWas() {
        CobwebLibrary x = Edges.made(THREE);
        x.image(0);
        String kept = Edges.allOf(x);
        for (int k = 0; k < 3; k++) {
            x.ask(0);
            x.move(1, 2, 2);
            x.days(9, k);
            Edges.sentence(x, "rare");
            x.restore(0);
            Edges.due("all", Edges.allOf(x), kept);
        }
    }

    static void promise38_nothingElseIsDone() {
        CobwebLibrary x = Edges.made(THREE);
        x.ask(0);
        x.feed(0, 0, 0, 0, 0);
        String ahead = Edges.allOf(x);
        x.image(0);
        x.image(2);
        Edges.due("all", Edges.allOf(x), ahead);
        Edges.due("count(7)", x.count(7), 20);
        Edges.due("undo()", x.undo(), 0);
    }

    static void promise38_anEmptyLibrary() {
        CobwebLibrary x = new CobwebLibrary();
        x.image(0);
        Edges.library(x, THREE);
        Edges.due("restore(0)", x.restore(0), true);
        Edges.due("count(0)", x.count(0), 0);
        Edges.due("count(1)", x.count(1), 4);
        Edges.due("count(3)", x.count(3), 10);
    }

    static void promise39_noSuchPlace() {
        CobwebLibrary x = Edges.made(THREE);
        x.image(0);
        x.image(1);
        x.days(3, 1);
        Edges.due("restore(-1)", x.restore(-1), false);
        Edges.due("restore(2)", x.restore(2), false);
        for (int k : Edges.FAR) {
            Edges.due("restore(" + k + ")", x.restore(k), false);
        }
        Edges.due("now(0)", x.now(0), 3);
        Edges.due("undo()", x.undo(), 0);
    }

    static void promise39_nothingIsKeptThere() {
        CobwebLibrary x = Edges.made(THREE);
        x.image(1);
        x.days(3, 1);
        Edges.due("restore(0)", x.restore(0), false);
        Edges.due("now(0)", x.now(0), 3);
        Edges.due("undo()", x.undo(), 0);
        Edges.due("restore(1)", x.restore(1), true);
    }

    static void promise39_nothingCanBeUndone() {
        CobwebLibrary x = Edges.made(THREE);
        x.days(1, 1);
        x.image(0);
        x.days(1, 1);
        x.restore(0);
        Edges.due("undo()", x.undo(), -1);
        Edges.due("now(0)", x.now(0), 1);
        x.ask(0);
        Edges.due("undo() of an act behind it", x.undo(), 0);
        Edges.due("undo()", x.undo(), -1);
    }

    static void promise39_theTapeStays() {
        CobwebLibrary x = Edges.made(THREE);
        x.image(0);
        Bench.feed(x, "book z 1 2;");
        x.restore(0);
        Edges.due("count(7)", x.count(7), 11);
        Edges.due("library()", x.library(), 1);
        Edges.due("at(1, 2)", x.at(1, 2), 0);
    }

    static void promise39_whatOtherCallsToldLastStays() {
        CobwebLibrary x = Edges.made("law 1;line 1;book a 0 0;book b 3 0 rare;thread a b 1;");
        x.image(0);
        x.way(1, 0);
        x.keep(1);
        Edges.asked(x, 1, 1, 0);
        x.torn(1);
        x.days(1, 1);
        x.turns(2);
        x.catalogue(1);
        Edges.life(x, 0, "day 2;ask a;ask a;");
        Edges.library(x, "law 0;");
        x.restore(0);
        Edges.due("wayAt(0)", x.wayAt(0), 1);
        Edges.due("wayAt(1)", x.wayAt(1), 0);
        Edges.due("keepAt(0)", x.keepAt(0), 1);
        Edges.due("askedAt(0)", x.askedAt(0), 1);
        Edges.due("steps()", x.steps(), 5);
        Edges.due("turn()", x.turn(), 0);
        Edges.due("byteAt(0)", x.byteAt(0), 'b');
        Edges.due("told(0)", x.told(0), 1);
        Edges.due("told(1)", x.told(1), 2);
        Edges.due("told(2)", x.told(2), 3);
        Edges.due("told(3)", x.told(3), 2);
        Edges.due("fault()", x.fault(), 2);
    }

    static void promise39_theSentenceIsAsKept() {
        CobwebLibrary x = Edges.made(THREE);
        x.image(0);
        Edges.sentence(x, "rare");
        x.image(1);
        x.restore(0);
        Edges.due("said(-1): there was none", x.said(-1), -1);
        x.restore(1);
        Edges.due("said(-1)", x.said(-1), 1);
        Edges.due("said(0)", x.said(0), 0);
        Edges.sentence(x, "follows c");
        x.image(0);
        Edges.library(x, "book z 0 0;");
        x.restore(0);
        Edges.due("said(0)", x.said(0), 2);
    }

    static void promise39_onTheLastDay() {
        CobwebLibrary x = Edges.made(THREE);
        x.image(0);
        for (int k = 0; k < 14; k++) {
            x.days(30, 1);
        }
        Edges.due("now(0)", x.now(0), 400);
        x.restore(0);
        Edges.due("now(0)", x.now(0), 0);
        Edges.due("days(30, 1)", x.days(30, 1), 30);
    }
}
