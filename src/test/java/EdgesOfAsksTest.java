/** The edges of IMAGES and of what is asked, promises 30 to 37: a test for each sentence that names one. */
public final class EdgesOfAsksTest implements Answers {
    private static final String KINDS = "e0,0;g10,2,1,0;f20,3,1,0;s30,5,1,0;p40,2,1,0;w50,4,1,0;";

    private static final Due d = new Due();

    public static void main(String[] args) {
        imagesAreTwo();
        imageWithoutALand();
        restoreOfNoneThatWasKept();
        anImageIsOfOneMoment();
        aLaterImageStandsInPlace();
        imagesAreApart();
        anImageOutlastsItsLand();
        anImageKeepsNoActs();
        anImageOfDay999();
        restoreLeavesAllElse();
        kindOfNoThing();
        asOfEachKind();
        asRefusesInOrder();
        askOfEachKind();
        askOfTheFirstAndTheLast();
        askOfWhatStopped();
        askRefuses();
        theTraceHasEnds();
        theTraceIsEmptyAhead();
        countsAtTheirEnds();
        countRefuses();
        statusOfNone();
        statusOfEachFinding();
        statusOfRefusals();
        statusOfCallsWithoutARow();
        d.end();
    }

    private static void imagesAreTwo() {
        EscrowLand x = Due.told(KINDS);
        for (int k : new int[] {LEAST, -1, 2, 3, MOST}) {
            d.due("image " + k, x.image(k), BAD);
            d.due("restore " + k, x.restore(k), BAD);
            d.due("no land: image " + k + ", BAD ahead of STATE", new EscrowLand().image(k), BAD);
            d.due("no land: restore " + k + ", BAD ahead of STATE", new EscrowLand().restore(k), BAD);
        }
        for (int k = 0; k <= 1; k++) {
            d.due("image " + k, x.image(k), 1);
            d.due("restore " + k, x.restore(k), 1);
        }
    }

    private static void imageWithoutALand() {
        EscrowLand x = new EscrowLand();
        for (int k = 0; k <= 1; k++) {
            d.due("no land: image " + k, x.image(k), STATE);
            d.due("no land: restore " + k, x.restore(k), STATE);
        }
        Due.read(x, "e0,0;");
        d.due("a fault is no land", x.image(0), STATE);
        Due.read(x, KINDS);
        d.due("what was refused was not kept", x.restore(0), STATE);
    }

    private static void restoreOfNoneThatWasKept() {
        EscrowLand x = Due.told(KINDS);
        d.due("neither: 0", x.restore(0), STATE);
        d.due("neither: 1", x.restore(1), STATE);
        x.image(1);
        d.due("not the first", x.restore(0), STATE);
        d.due("the second", x.restore(1), 1);
        EscrowLand y = Due.told(KINDS);
        y.image(0);
        d.due("not the second", y.restore(1), STATE);
        d.due("the first", y.restore(0), 1);
    }

    private static void anImageIsOfOneMoment() {
        EscrowLand x = Due.told("e2,3;g10,2,4,0;p40,1,1,1;w50,1,1,0;");
        x.days(4);
        x.putBack(0);
        x.send(1, 2);
        x.allow(7);
        x.image(0);
        for (int time = 0; time < 2; time++) {
            x.days(3);
            x.putBack(0);
            x.send(2, 1);
            x.allow(0);
            d.due("restored", x.restore(0), 1);
            d.due("day", x.count(2), 4);
            d.due("cost", x.count(3), 35 + 3);
            d.due("cost held", x.holds(0), 38);
            d.due("may", x.holds(1), 7);
            d.due("fee", x.holds(2), 3);
            d.due("what was put back", x.thing(0, 0), 10);
            d.due("who was sent in", x.thing(1, 0), 54);
            d.due("the other", x.thing(2, 0), 44);
            d.due("all off", x.holds(3), 14 + 6);
            d.due("no act", x.count(4), 0);
        }
        d.due("what it was stays", x.thing(0, 1), 10);
        d.due("the next day goes on from there", x.days(1), 2 + 15 + 5);
    }

    private static void aLaterImageStandsInPlace() {
        EscrowLand x = Due.told("e0,0;g10,1,1,0;");
        x.image(0);
        x.days(2);
        d.due("once more", x.image(0), 1);
        x.days(2);
        x.restore(0);
        d.due("the later one", x.thing(0, 0), 12);
        d.due("its day", x.count(2), 2);
    }

    private static void imagesAreApart() {
        EscrowLand x = Due.told("e0,0;g10,1,1,0;");
        x.image(0);
        x.days(2);
        x.image(1);
        x.restore(0);
        d.due("the first", x.thing(0, 0), 10);
        x.restore(1);
        d.due("the second", x.thing(0, 0), 12);
        x.image(0);
        x.days(5);
        x.image(1);
        x.restore(0);
        d.due("the first is a copy of the second as it was", x.thing(0, 0), 12);
    }

    private static void anImageOutlastsItsLand() {
        EscrowLand x = Due.told(KINDS);
        x.days(1);
        x.image(0);
        Due.read(x, "e9,9;p1,1,1,1;");
        d.due("one thing", x.count(1), 1);
        x.image(1);
        d.due("of five things", x.restore(0), 1);
        d.due("five", x.count(1), 5);
        d.due("the fifth", x.kind(4), 5);
        d.due("the first grew", x.thing(0, 0), 12);
        d.due("of one thing", x.restore(1), 1);
        d.due("one", x.count(1), 1);
        d.due("no second", x.thing(1, 0), BAD);
        d.due("its fee", x.holds(2), 9);
    }

    private static void anImageKeepsNoActs() {
        EscrowLand x = Due.told("e0,0;g10,1,1,0;");
        x.days(3);
        x.image(0);
        d.due("acts stay ahead of it", x.count(4), 3);
        d.due("and can be undone", x.undo(), 2);
        x.restore(0);
        d.due("no act can be undone then", x.count(4), 0);
        d.due("undo", x.undo(), STATE);
        d.due("day 3", x.count(2), 3);
        x.days(1);
        d.due("a new one can", x.undo(), 0);
        d.due("back to the image", x.thing(0, 0), 13);
        x.days(24);
        d.due("24 again", x.count(4), 24);
        d.due("not kept: no act is lost", x.restore(1), STATE);
        d.due("24 still", x.count(4), 24);
    }

    private static void anImageOfDay999() {
        EscrowLand x = Due.told("e0,0;s0,1,1,0;");
        x.image(0);
        Due.pass(x, 999);
        x.image(1);
        x.restore(0);
        d.due("days again", x.days(24), 0);
        x.restore(1);
        d.due("no more days", x.days(1), FULL);
    }

    private static void restoreLeavesAllElse() {
        EscrowLand x = Due.told(KINDS);
        x.image(0);
        x.row(3, 1, 7);
        x.set(3, 9, 0);
        x.feed('e');
        x.ask(3, 1);
        x.restore(0);
        d.due("rows", x.count(0), 1);
        d.due("status", x.status(), 2);
        d.due("the tape", x.count(5), 1);
        d.due("the trace", x.trace(3), 10);
        d.due("the row", x.drop(3), 7);
    }

    private static void kindOfNoThing() {
        EscrowLand x = Due.told(KINDS);
        for (int one : new int[] {LEAST, -1, 5, 6, MOST}) {
            d.due("kind of " + one, x.kind(one), BAD);
        }
        for (int one = 0; one < 5; one++) {
            d.due("kind of " + one, x.kind(one), one + 1);
        }
        for (int one = -1; one <= 6; one++) {
            d.due("no land: kind of " + one, new EscrowLand().kind(one), BAD);
        }
    }

    private static void asOfEachKind() {
        EscrowLand x = Due.told(KINDS);
        int[][] is = {{0, 1}, {0, 1, 2}, {0, 1, 3}, {0, 4}, {0, 4, 5}};
        for (int one = 0; one < 5; one++) {
            for (int kind = 0; kind <= 5; kind++) {
                boolean so = false;
                for (int known : is[one]) {
                    so |= known == kind;
                }
                d.due("as " + one + ", " + kind, x.as(one, kind), so ? one : KIND);
                d.due("status of as " + one + ", " + kind, x.status(), so ? 0 : 3);
            }
        }
    }

    private static void asRefusesInOrder() {
        EscrowLand x = Due.told(KINDS);
        x.as(0, 5);
        for (int kind : new int[] {LEAST, -1, 6, 7, 31, 32, 33, MOST}) {
            d.due("as 0, " + kind, x.as(0, kind), BAD);
        }
        for (int one : new int[] {LEAST, -1, 5, 6, MOST}) {
            d.due("as " + one + ", 0", x.as(one, 0), BAD);
        }
        d.due("status stays", x.status(), 3);
        d.due("no land", new EscrowLand().as(0, 0), BAD);
    }

    private static void askOfEachKind() {
        EscrowLand x = Due.told(KINDS);
        d.asked(x, 0, 0, 2 + 10, 11, 10, 21, 20);
        d.asked(x, 0, 1, 10, 21, 20);
        d.asked(x, 1, 0, -(3 + 42), 12, 11, 10, 24, 21, 20);
        d.asked(x, 1, 1, 42, 24, 21, 20);
        d.asked(x, 2, 0, 5 + 32 - 1000, 11, 10, 22, 21, 20);
        d.asked(x, 2, 1, 32 - 1000, 22, 21, 20);
        d.asked(x, 3, 0, 2 - 100, 13, 10);
        d.asked(x, 3, 1, 3 + 98, 23, 20, 13, 10);
        d.asked(x, 4, 0, 2 * (4 - 100), 14, 13, 10);
        d.asked(x, 4, 1, 4 + 192, 23, 20, 14, 13, 10);
    }

    private static void askOfTheFirstAndTheLast() {
        String[] sorts = {"g", "f", "s", "p", "w"};
        int[] sizeFirst = {1 + 7, -(1 + 14), 1 + 7 - 1000, -99, -198};
        int[] sizeLast = {9 + 12, -(9 + 24), 9 + 12 - 1000, -91, -182};
        int[] markFirst = {7, 14, 7 - 1000, 99, 198};
        int[] markLast = {12, 24, 12 - 1000, 5 + 91, 5 + 182};
        for (int k = 0; k < 5; k++) {
            EscrowLand x = Due.told("e0,0;" + sorts[k] + "7,1,1,0;" + "g0,1,1,0;".repeat(4) + sorts[k] + "7,9,1,0;");
            d.due("size of the first, " + sorts[k], x.ask(0, 0), sizeFirst[k]);
            d.due("size of the last, " + sorts[k], x.ask(5, 0), sizeLast[k]);
            d.due("mark of the first, " + sorts[k], x.ask(0, 1), markFirst[k]);
            d.due("mark of the last, " + sorts[k], x.ask(5, 1), markLast[k]);
        }
    }

    private static void askOfWhatStopped() {
        EscrowLand x = Due.told("e0,0;g60,9,1,0;f9,9,1,0;");
        x.days(9);
        d.due("mark at 99", x.ask(0, 1), 99);
        d.due("mark at 0: the number, twice", x.ask(1, 1), 2);
        d.due("size at 0", x.ask(1, 0), -11);
        x.undo();
        d.due("what it is, not what it was", x.ask(0, 1), 99);
        x.putBack(0);
        d.due("put back", x.ask(0, 1), 60);
    }

    private static void askRefuses() {
        EscrowLand x = Due.told(KINDS);
        x.ask(4, 1);
        for (int what : new int[] {LEAST, -1, 2, 3, MOST}) {
            d.due("ask 0, " + what, x.ask(0, what), BAD);
        }
        for (int one : new int[] {LEAST, -1, 5, 6, MOST}) {
            d.due("ask " + one + ", 0", x.ask(one, 0), BAD);
        }
        d.due("the trace stays", x.trace(0), 23);
        d.due("its last", x.trace(4), 10);
        d.due("its end", x.trace(5), NONE);
        d.due("no land", new EscrowLand().ask(0, 0), BAD);
    }

    private static void theTraceHasEnds() {
        EscrowLand x = new EscrowLand();
        for (int i : new int[] {LEAST, -1, 0, 1, 15, 16, MOST}) {
            d.due("no ask yet: trace " + i, x.trace(i), NONE);
        }
        Due.read(x, KINDS);
        d.due("no ask yet, a land", x.trace(0), NONE);
        x.ask(1, 0);
        d.due("the longest: its last", x.trace(5), 20);
        d.due("the longest: its end", x.trace(6), NONE);
        d.due("ahead of it", x.trace(-1), NONE);
    }

    private static void theTraceIsEmptyAhead() {
        EscrowLand x = Due.told(KINDS);
        x.ask(1, 0);
        x.ask(3, 0);
        d.due("the first of the later", x.trace(0), 13);
        d.due("the second of the later", x.trace(1), 10);
        d.due("nothing of the one before", x.trace(2), NONE);
        d.due("nothing of the one before", x.trace(5), NONE);
        // More than 16 bodies in all: each ask begins anew.
        for (int time = 0; time < 5; time++) {
            d.asked(x, 1, 0, -45, 12, 11, 10, 24, 21, 20);
        }
    }

    private static void countsAtTheirEnds() {
        EscrowLand x = Due.told("e0,0;" + "g0,1,1,0;".repeat(6));
        for (int row = 0; row < 8; row++) {
            x.row(row, 0, 0);
        }
        d.due("eight rows", x.count(0), 8);
        d.due("six things", x.count(1), 6);
        for (int n = 1; n <= 100; n++) {
            x.feed('z');
            d.due("bytes", x.count(5), n);
        }
        Due.pass(x, 999);
        d.due("day 999", x.count(2), 999);
        d.due("24 acts", x.count(4), 24);
        for (int thing = 0; thing < 6; thing++) {
            x.putBack(thing);
        }
        d.due("cost", x.count(3), 6 * 99);
        d.due("the same cost", x.holds(0), 6 * 99);
    }

    private static void countRefuses() {
        EscrowLand x = Due.told(KINDS);
        for (int what : new int[] {LEAST, -1, 6, 7, MOST}) {
            d.due("count " + what, x.count(what), BAD);
            d.due("no land: count " + what, new EscrowLand().count(what), BAD);
        }
        for (int what = 0; what <= 5; what++) {
            d.due("no land: count " + what, new EscrowLand().count(what), 0);
        }
    }

    private static void statusOfNone() {
        EscrowLand x = new EscrowLand();
        d.due("no call", x.status(), 0);
        x.row(8, 0, 0);
        d.due("a BAD call alone", x.status(), 0);
        x.stealth(0, 0, 1);
        d.due("a STATE call alone", x.status(), 0);
        x.as(0, 0);
        d.due("as(), BAD alone", x.status(), 0);
        x.status();
        d.due("itself", x.status(), 0);
    }

    private static void statusOfEachFinding() {
        EscrowLand x = Due.told(KINDS);
        found(x, x.set(0, 0, 0), NULL, 1);
        found(x, x.row(0, 0, 1), 1, 0);
        found(x, x.set(0, 1, 0), PLACE, 2);
        found(x, x.set(0, 0, 0), 0, 0);
        found(x, x.as(0, 2), KIND, 3);
        found(x, x.as(0, 1), 0, 0);
        found(x, x.row(0, 0, -1), SIZE, 4);
        found(x, x.drop(0), 1, 0);
        x.row(1, 1, 1);
        x.row(2, 2, 1);
        found(x, x.copy(1, 0, 2, 0, 1), STORE, 5);
        found(x, x.copy(1, 0, 1, 0, 1), 1, 0);
        found(x, x.drop(0), NULL, 1);
        found(x, x.stealth(1, 0, 1), 0, 0);
        found(x, x.stealth(1, 0, 2), PLACE, 2);
        found(x, x.who(0, 1, 0, 1), 0, 0);
        found(x, x.who(0, 0, 0, 1), NULL, 1);
        found(x, x.copy(1, 0, 1, 0, 2), PLACE, 2);
        found(x, x.copy(1, 0, 0, 0, 1), NULL, 1);
        found(x, x.stealth(0, 0, 1), NULL, 1);
        found(x, x.who(0, 1, 1, 1), PLACE, 2);
    }

    private static void found(EscrowLand x, int got, int answer, int status) {
        d.due("the answer", got, answer);
        d.due("its status", x.status(), status);
        d.due("its status once more", x.status(), status);
    }

    private static void statusOfRefusals() {
        EscrowLand x = Due.told(KINDS);
        x.row(0, 0, 1);
        x.as(0, 5);
        int[] refused = {x.row(8, 0, 1), x.row(0, 3, 1), x.row(0, 0, 41), x.set(-1, 0, 0), x.copy(8, 0, 0, 0, 0),
            x.copy(0, 0, 8, 0, 0), x.drop(-1), x.stealth(8, 0, 1), x.stealth(0, 0, 0), x.who(5, 0, 0, 1),
            x.who(0, 8, 0, 1), x.who(0, 0, 0, 13), x.as(5, 0), x.as(0, 6)};
        for (int answer : refused) {
            d.due("refused", answer, BAD);
        }
        d.due("KIND still", x.status(), 3);
        EscrowLand none = new EscrowLand();
        none.drop(0);
        none.stealth(0, 0, 1);
        d.due("STATE leaves NULL", none.status(), 1);
    }

    private static void statusOfCallsWithoutARow() {
        EscrowLand x = Due.told(KINDS);
        x.row(0, 0, -1);
        x.days(3);
        x.days(0);
        x.putBack(0);
        x.putBack(0);
        x.send(3, 4);
        x.allow(4);
        x.undo();
        x.thing(0, 0);
        x.holds(0);
        x.ahead(0, 1);
        x.offAhead(1);
        x.lost(0);
        x.cheapest(0, 3, 0);
        x.cheapest(3, 3, 0);
        x.match(0);
        x.gain(0);
        x.seldom(0, 1);
        x.round();
        x.leastMay(1);
        x.odds(0, 1, 1, 1);
        x.store(1);
        x.drawn(1, 1, 1);
        x.image(0);
        x.restore(0);
        x.restore(1);
        x.kind(0);
        x.ask(0, 0);
        x.trace(0);
        x.count(0);
        x.feed(1);
        x.land();
        x.fault();
        Due.read(x, KINDS);
        d.due("SIZE still", x.status(), 4);
    }
}
