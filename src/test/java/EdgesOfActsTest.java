/** The edges of DAYS and ACTS, promises 9 to 15: a test for each sentence that names one. */
public final class EdgesOfActsTest implements Answers {
    private static final Due d = new Due();

    public static void main(String[] args) {
        whatGrowsStopsAt99();
        whatFallsStopsAt0();
        seasonsGoByEvenAndOddDays();
        seasonsStopAt0();
        aPersonIsOneMoreAtMultiples();
        aPersonStopsAt99();
        aWidowIsLessEachSeventhDay();
        aWidowIsLessInPlaceOfMore();
        aWidowStopsAt0And99();
        aDayIsOneMore();
        daysAre1To24();
        daysWithoutALand();
        daysUpTo999();
        daysUndoneMakeRoom();
        manyDaysAreAnActEach();
        alikeIsMayOrLess();
        alikeBitsOfNoneAndAll();
        putBackCostsPriceTimesOffAndFee();
        putBackOfWhatStopped();
        whatIsNotOffIsNotPutBack();
        noPersonIsPutBack();
        sentInIsWhatTheyAre();
        sentInAlikeCostsTheFee();
        sentInTwiceIsAsBefore();
        sendRefusesInOrder();
        allowIs0To9();
        undoneTheLatestFirst();
        aRefusalIsNoAct();
        actsAre24AtMost();
        ofMoreTheOldestIsForgotten();
        actsOverManyRounds();
        undoOfNone();
        thingTellsEight();
        holdsTellsFive();
        d.end();
    }

    /** What the one thing (or the one asked for) is behind each of the next days. */
    private static void goes(String how, EscrowLand x, int thing, int... is) {
        for (int day = 0; day < is.length; day++) {
            x.days(1);
            d.due(how + ", day " + (day + 1), x.thing(thing, 0), is[day]);
        }
    }

    private static void whatGrowsStopsAt99() {
        goes("60 by 9", Due.told("e0,0;g60,9,1,0;"), 0, 69, 78, 87, 96, 99, 99, 99);
        EscrowLand x = Due.told("e0,0;g59,8,1,0;");
        x.days(4);
        goes("59 by 8", x, 0, 99, 99);
        EscrowLand far = Due.told("e0,0;g0,1,1,0;");
        Due.pass(far, 98);
        goes("0 by 1", far, 0, 99, 99);
        d.due("off by 99", far.thing(0, 5), 99);
    }

    private static void whatFallsStopsAt0() {
        goes("9 by 5", Due.told("e0,0;f9,5,1,0;"), 0, 4, 0, 0);
        goes("9 by 9", Due.told("e0,0;f9,9,1,0;"), 0, 0, 0);
        goes("0 by 1", Due.told("e0,0;f0,1,1,0;"), 0, 0, 0);
        goes("2 by 1", Due.told("e0,0;f2,1,1,0;"), 0, 1, 0, 0);
    }

    private static void seasonsGoByEvenAndOddDays() {
        goes("from day 0", Due.told("e0,0;s30,5,1,0;"), 0, 35, 30, 35, 30);
        EscrowLand x = Due.told("e0,0;s30,5,1,0;");
        x.days(1);
        x.putBack(0);
        goes("put back ahead of an odd day", x, 0, 25, 30, 25, 30);
    }

    private static void seasonsStopAt0() {
        EscrowLand x = Due.told("e0,0;s0,5,1,0;s3,9,1,0;");
        x.days(1);
        x.putBack(0);
        x.putBack(1);
        x.days(1);
        d.due("0 less 5", x.thing(0, 0), 0);
        d.due("3 less 9", x.thing(1, 0), 0);
        x.days(1);
        d.due("5 more", x.thing(0, 0), 5);
        d.due("9 more than 0, not than 3", x.thing(1, 0), 9);
    }

    private static void aPersonIsOneMoreAtMultiples() {
        goes("by 1", Due.told("e0,0;p5,1,1,0;"), 0, 6, 7, 8);
        goes("by 2", Due.told("e0,0;p5,2,1,0;"), 0, 5, 6, 6, 7, 7, 8, 8, 9);
        EscrowLand nine = Due.told("e0,0;p5,9,1,0;");
        nine.days(7);
        goes("by 9", nine, 0, 5, 6, 6);
        nine.days(7);
        goes("by 9, again", nine, 0, 7, 7);
        EscrowLand seven = Due.told("e0,0;p5,7,1,0;");
        seven.days(6);
        goes("a person by 7 is more, not less", seven, 0, 6, 6);
    }

    private static void aPersonStopsAt99() {
        EscrowLand x = Due.told("e0,0;p60,1,1,0;");
        Due.pass(x, 37);
        goes("60 by 1", x, 0, 98, 99, 99, 99);
    }

    private static void aWidowIsLessEachSeventhDay() {
        goes("by 9", Due.told("e0,0;w50,9,1,0;"), 0, 50, 50, 50, 50, 50, 50, 41, 41, 42, 42, 42, 42, 42, 33);
        goes("by 3", Due.told("e0,0;w50,3,1,0;"), 0, 50, 50, 51, 51, 51, 52, 49, 49, 50);
    }

    private static void aWidowIsLessInPlaceOfMore() {
        goes("by 1: the 7th day", Due.told("e0,0;w50,1,1,0;"), 0, 51, 52, 53, 54, 55, 56, 55, 56);
        goes("by 7: the 7th day", Due.told("e0,0;w50,7,1,0;"), 0, 50, 50, 50, 50, 50, 50, 43, 43);
        EscrowLand x = Due.told("e0,0;w50,2,1,0;");
        x.days(12);
        goes("by 2: the 14th day", x, 0, 54, 52, 52, 53);
    }

    private static void aWidowStopsAt0And99() {
        EscrowLand low = Due.told("e0,0;w3,8,1,0;");
        low.days(6);
        goes("3 less 8", low, 0, 0, 1);
        EscrowLand high = Due.told("e0,0;w60,1,1,0;");
        Due.pass(high, 51);
        goes("60 by 1", high, 0, 98, 99, 99, 99, 98, 99);
    }

    private static void aDayIsOneMore() {
        EscrowLand x = Due.told("e0,0;g0,1,1,0;");
        d.due("day 0", x.count(2), 0);
        x.days(1);
        d.due("day 1", x.count(2), 1);
        x.days(24);
        d.due("day 25", x.count(2), 25);
        x.putBack(0);
        x.allow(3);
        d.due("other acts take no day", x.count(2), 25);
    }

    private static void daysAre1To24() {
        for (int n = 1; n <= 24; n++) {
            EscrowLand x = Due.told("e0,0;g0,1,1,0;f60,1,1,0;");
            d.due("all off behind " + n, x.days(n), 2 * n);
            d.due("day " + n, x.count(2), n);
            d.due("acts of " + n, x.count(4), n);
        }
        EscrowLand x = Due.told("e0,0;g0,1,1,0;");
        for (int n : new int[] {LEAST, -24, -1, 0, 25, 26, 999, MOST}) {
            d.due("days " + n, x.days(n), BAD);
        }
        d.due("no day", x.count(2), 0);
        d.due("no act", x.count(4), 0);
    }

    private static void daysWithoutALand() {
        for (int n : new int[] {LEAST, -1, 0, 1, 24, 25, MOST}) {
            d.due("no land: days " + n, new EscrowLand().days(n), STATE);
        }
        for (int may : new int[] {LEAST, -1, 0, 9, 10, MOST}) {
            d.due("no land: allow " + may, new EscrowLand().allow(may), STATE);
        }
        for (int what : new int[] {LEAST, -1, 0, 4, 5, MOST}) {
            d.due("no land: holds " + what, new EscrowLand().holds(what), STATE);
            d.due("no land: thing " + what, new EscrowLand().thing(what, 0), BAD);
            d.due("no land: put back " + what, new EscrowLand().putBack(what), BAD);
            d.due("no land: send " + what, new EscrowLand().send(what, 1), BAD);
        }
        EscrowLand x = new EscrowLand();
        Due.read(x, "e0,0;");
        d.due("a text with a fault is no land", x.days(1), STATE);
    }

    private static EscrowLand onDay(int day) {
        EscrowLand x = Due.told("e0,0;s0,1,1,0;");
        Due.pass(x, day);
        d.due("day", x.count(2), day);
        return x;
    }

    private static void daysUpTo999() {
        EscrowLand x = onDay(975);
        d.due("to 999 by 24", x.days(24), 1);
        d.due("999", x.count(2), 999);
        d.due("one more", x.days(1), FULL);
        d.due("24 more", x.days(24), FULL);
        d.due("BAD ahead of FULL: 0", x.days(0), BAD);
        d.due("BAD ahead of FULL: 25", x.days(25), BAD);
        d.due("BAD ahead of FULL: most", x.days(MOST), BAD);
        d.due("999 still", x.count(2), 999);
        EscrowLand y = onDay(976);
        d.due("to 1000", y.days(24), FULL);
        d.due("none of these", y.count(2), 976);
        d.due("to 999 by 23", y.days(23), 1);
        d.due("999", y.count(2), 999);
    }

    private static void daysUndoneMakeRoom() {
        EscrowLand x = onDay(999);
        x.undo();
        d.due("998", x.count(2), 998);
        d.due("two more", x.days(2), FULL);
        d.due("one more", x.days(1), 1);
        d.due("another act is done on 999", x.putBack(0), 1);
        Due.read(x, "e0,0;g0,1,1,0;");
        d.due("another land has days again", x.days(24), 24);
    }

    private static void manyDaysAreAnActEach() {
        EscrowLand x = Due.told("e0,0;g0,2,1,0;");
        x.days(3);
        d.due("two left", x.undo(), 2);
        d.due("behind two days", x.thing(0, 0), 4);
        d.due("one left", x.undo(), 1);
        d.due("behind one day", x.thing(0, 0), 2);
        d.due("none left", x.undo(), 0);
        d.due("at first", x.thing(0, 0), 0);
        d.due("day 0", x.count(2), 0);
        d.due("none", x.undo(), STATE);
    }

    private static void alikeIsMayOrLess() {
        for (int may = 0; may <= 9; may++) {
            EscrowLand x = Due.told("e" + may + ",0;g20,1,1,0;f20,1,1,0;");
            for (int off = 0; off <= 10; off++) {
                int alike = off <= may ? 1 : 0;
                d.due("more by " + off + ", may " + may, x.thing(0, 6), alike);
                d.due("less by " + off + ", may " + may, x.thing(1, 6), alike);
                d.due("both by " + off + ", may " + may, x.holds(4), 3 * alike);
                x.days(1);
            }
        }
    }

    private static void alikeBitsOfNoneAndAll() {
        EscrowLand x = Due.told("e1,0;" + "p10,1,1,0;".repeat(6));
        d.due("all six", x.holds(4), 63);
        x.days(1);
        d.due("all six, off by 1", x.holds(4), 63);
        x.days(1);
        d.due("none", x.holds(4), 0);
        x.allow(2);
        d.due("all six again", x.holds(4), 63);
        EscrowLand last = Due.told("e0,0;" + "g10,1,1,0;".repeat(5) + "f0,1,1,0;");
        last.days(1);
        d.due("the last alone", last.holds(4), 32);
    }

    private static void putBackCostsPriceTimesOffAndFee() {
        putBackCosts("e0,0;g10,1,1,0;", 1, 1);
        putBackCosts("e0,20;g10,1,1,0;", 1, 21);
        putBackCosts("e0,0;g10,9,9,0;", 9, 81);
        putBackCosts("e0,20;f60,9,9,0;", 9, 101);
        putBackCosts("e9,7;s10,4,3,0;", 4, 19);
    }

    private static void putBackCosts(String text, int off, int cost) {
        EscrowLand x = Due.told(text);
        x.days(1);
        d.due("off, " + text, x.thing(0, 5), off);
        d.due("would cost, " + text, x.thing(0, 7), cost);
        d.due("costs, " + text, x.putBack(0), cost);
        d.due("all cost, " + text, x.count(3), cost);
        d.due("held, " + text, x.holds(0), cost);
        d.due("not off then, " + text, x.thing(0, 5), 0);
    }

    private static void putBackOfWhatStopped() {
        EscrowLand x = Due.told("e0,20;g0,9,9,0;f5,9,2,0;");
        x.days(12);
        d.due("9 times 99, and 20", x.putBack(0), 911);
        d.due("2 times 5, and 20", x.putBack(1), 30);
        d.due("both", x.count(3), 941);
        x.days(1);
        d.due("by 9 from what it was", x.thing(0, 0), 9);
    }

    private static void whatIsNotOffIsNotPutBack() {
        EscrowLand x = Due.told("e0,5;g10,1,1,0;s10,1,1,0;f0,1,1,0;");
        d.due("at first", x.putBack(0), STATE);
        d.due("it would cost the fee", x.thing(0, 7), 5);
        x.days(2);
        d.due("seasons that came back", x.putBack(1), STATE);
        d.due("what can fall no more", x.putBack(2), STATE);
        d.due("put back", x.putBack(0), 7);
        d.due("put back already", x.putBack(0), STATE);
        d.due("three acts", x.count(4), 3);
        d.due("cost", x.count(3), 7);
        x.allow(9);
        x.days(1);
        d.due("off, though alike", x.putBack(0), 6);
    }

    private static void noPersonIsPutBack() {
        EscrowLand x = Due.told("e0,5;p10,1,1,0;w10,1,1,0;");
        d.due("a person, not off", x.putBack(0), STATE);
        x.days(1);
        d.due("a person, off", x.putBack(0), STATE);
        d.due("a widow, off", x.putBack(1), STATE);
        d.due("a person can not be", x.thing(0, 7), NONE);
        d.due("a widow can not be", x.thing(1, 7), NONE);
        d.due("no cost", x.count(3), 0);
        d.due("none behind the last", x.putBack(2), BAD);
        d.due("none ahead of the first", x.putBack(-1), BAD);
    }

    private static void sentInIsWhatTheyAre() {
        EscrowLand x = Due.told("e1,4;p10,1,2,0;w30,3,5,1;w50,2,1,0;p60,9,1,1;");
        x.days(2);
        d.due("12 and 30 for 30 and 10", x.send(0, 1), 20 + 18);
        int[][] want = {{30, 10, 1, 2, 0}, {12, 30, 3, 5, 1}, {51, 50, 2, 1, 0}, {60, 60, 9, 1, 1}};
        for (int thing = 0; thing < 4; thing++) {
            for (int what = 0; what < 5; what++) {
                d.due("thing " + thing + ", " + what, x.thing(thing, what), want[thing][what]);
            }
        }
        d.due("a person stays a person", x.kind(0), 4);
        d.due("a widow stays a widow", x.kind(1), 5);
        d.due("the fee", x.count(3), 4);
        d.due("widows", x.send(1, 2), 21 + 38);
        d.due("persons", x.send(3, 0), 30 + 50);
        d.due("three fees", x.count(3), 12);
        d.due("off of all", x.holds(3), 50 + 21 + 38 + 30);
    }

    private static void sentInAlikeCostsTheFee() {
        EscrowLand x = Due.told("e0,20;p10,1,1,0;p10,1,1,0;");
        d.due("of the same", x.send(0, 1), 0);
        d.due("the fee", x.count(3), 20);
        d.due("an act", x.count(4), 1);
        EscrowLand free = Due.told("e0,0;p10,1,1,0;w20,1,1,0;");
        d.due("for nothing", free.send(1, 0), 20);
        d.due("no fee", free.count(3), 0);
        d.due("an act", free.count(4), 1);
    }

    private static void sentInTwiceIsAsBefore() {
        EscrowLand x = Due.told("e0,1;p10,1,1,0;w40,1,1,0;");
        x.days(1);
        x.send(0, 1);
        d.due("back", x.send(0, 1), 2);
        d.due("the first", x.thing(0, 0), 11);
        d.due("the second", x.thing(1, 0), 41);
        d.due("two fees", x.count(3), 2);
    }

    private static void sendRefusesInOrder() {
        EscrowLand x = Due.told("e0,1;p10,1,1,0;w40,1,1,0;g5,1,1,0;s5,1,1,0;f5,1,1,0;");
        for (int none : new int[] {LEAST, -1, 5, 6, MOST}) {
            d.due("none: " + none, x.send(none, 0), BAD);
            d.due("no other: " + none, x.send(0, none), BAD);
            d.due("BAD ahead of STATE: " + none, x.send(2, none), BAD);
            d.due("neither: " + none, x.send(none, none), BAD);
        }
        for (int thing = 0; thing < 5; thing++) {
            d.due("alike: " + thing, x.send(thing, thing), BAD);
        }
        for (int thing = 2; thing < 5; thing++) {
            d.due("no person: " + thing, x.send(thing, 0), STATE);
            d.due("no person, the other: " + thing, x.send(1, thing), STATE);
        }
        d.due("neither is a person", x.send(2, 3), STATE);
        d.due("no fee", x.count(3), 0);
        d.due("no act", x.count(4), 0);
    }

    private static void allowIs0To9() {
        EscrowLand x = Due.told("e5,0;g0,1,1,0;");
        int before = 5;
        for (int may = 0; may <= 9; may++) {
            d.due("allow " + may, x.allow(may), before);
            d.due("may " + may, x.holds(1), may);
            before = may;
        }
        for (int may : new int[] {LEAST, -9, -1, 10, 11, MOST}) {
            d.due("allow " + may, x.allow(may), BAD);
        }
        d.due("may 9 still", x.holds(1), 9);
        d.due("ten acts", x.count(4), 10);
        d.due("undone", x.undo(), 9);
        d.due("may 8", x.holds(1), 8);
    }

    private static void undoneTheLatestFirst() {
        EscrowLand x = Due.told("e2,3;g10,2,4,0;p40,1,1,1;w50,1,1,0;");
        x.days(1);
        x.putBack(0);
        x.send(1, 2);
        x.allow(0);
        d.due("may is undone", x.undo(), 3);
        d.due("may", x.holds(1), 2);
        d.due("who was sent in stays", x.thing(1, 0), 51);
        d.due("cost of both", x.count(3), 14);
        d.due("who was sent in is undone", x.undo(), 2);
        d.due("the person", x.thing(1, 0), 41);
        d.due("the widow", x.thing(2, 0), 51);
        d.due("cost of one", x.count(3), 11);
        d.due("what was put back stays", x.thing(0, 0), 10);
        d.due("what was put back is undone", x.undo(), 1);
        d.due("it is", x.thing(0, 0), 12);
        d.due("no cost", x.count(3), 0);
        d.due("day 1", x.count(2), 1);
        d.due("the day is undone", x.undo(), 0);
        d.due("day 0", x.count(2), 0);
        d.due("all off", x.holds(3), 0);
        d.due("no more", x.undo(), STATE);
    }

    private static void aRefusalIsNoAct() {
        EscrowLand x = Due.told("e2,3;g10,2,4,0;p40,1,1,1;");
        x.days(0);
        x.putBack(0);
        x.putBack(1);
        x.send(0, 1);
        x.send(1, 1);
        x.allow(10);
        x.undo();
        d.due("no act", x.count(4), 0);
        d.due("no day", x.count(2), 0);
        d.due("no cost", x.count(3), 0);
        x.image(0);
        d.due("an image is no act", x.count(4), 0);
    }

    private static void actsAre24AtMost() {
        EscrowLand x = Due.told("e0,0;g0,1,1,0;");
        x.days(23);
        d.due("23", x.count(4), 23);
        x.allow(1);
        d.due("24", x.count(4), 24);
        x.allow(2);
        d.due("24 of 25", x.count(4), 24);
        x.days(24);
        d.due("24 of 49", x.count(4), 24);
        d.due("one undone", x.undo(), 23);
        x.putBack(0);
        d.due("24 once more", x.count(4), 24);
    }

    private static void ofMoreTheOldestIsForgotten() {
        EscrowLand x = Due.told("e0,0;g0,1,1,0;");
        x.days(1);
        x.putBack(0);
        x.days(24);
        d.due("24", x.count(4), 24);
        for (int left = 23; left >= 0; left--) {
            d.due("undone", x.undo(), left);
            d.due("is", x.thing(0, 0), left);
            d.due("day", x.count(2), left + 1);
        }
        d.due("none", x.undo(), STATE);
        d.due("what was put back stays so", x.thing(0, 0), 0);
        d.due("and its cost", x.count(3), 1);
        EscrowLand y = Due.told("e0,0;g0,1,1,0;");
        y.days(24);
        y.putBack(0);
        for (int left = 23; left >= 0; left--) {
            d.due("undone", y.undo(), left);
        }
        d.due("the first day is forgotten", y.count(2), 1);
        d.due("behind it", y.thing(0, 0), 1);
        d.due("none", y.undo(), STATE);
    }

    private static void actsOverManyRounds() {
        EscrowLand x = Due.told("e0,0;g0,1,1,0;");
        int day = 0;
        int acts = 0;
        for (int round = 0; round < 30; round++) {
            x.days(5);
            day += 5;
            acts = Math.min(acts + 5, 24);
            for (int undone = 0; undone < 2; undone++) {
                day--;
                acts--;
                d.due("undone in round " + round, x.undo(), acts);
            }
            d.due("day in round " + round, x.count(2), day);
            d.due("is in round " + round, x.thing(0, 0), Math.min(day, 99));
        }
        for (int left = 21; left >= 0; left--) {
            d.due("undone at last", x.undo(), left);
            day--;
            d.due("day at last", x.count(2), day);
            d.due("is at last", x.thing(0, 0), Math.min(day, 99));
        }
        d.due("none", x.undo(), STATE);
    }

    private static void undoOfNone() {
        d.due("no land", new EscrowLand().undo(), STATE);
        EscrowLand x = Due.told("e0,0;g0,1,1,0;");
        d.due("a new land", x.undo(), STATE);
        x.days(1);
        x.image(0);
        d.due("undone", x.undo(), 0);
        d.due("once", x.undo(), STATE);
        x.days(1);
        x.restore(0);
        d.due("behind an image", x.undo(), STATE);
        d.due("which stays", x.count(2), 1);
        x.days(1);
        Due.read(x, "e0,0;f9,1,1,0;");
        d.due("behind another land", x.undo(), STATE);
        d.due("which stays", x.thing(0, 0), 9);
    }

    private static void thingTellsEight() {
        EscrowLand x = Due.told("e2,3;g10,2,4,0;w10,1,1,1;");
        for (int what : new int[] {LEAST, -1, 8, 9, MOST}) {
            d.due("what " + what, x.thing(0, what), BAD);
        }
        for (int thing : new int[] {LEAST, -1, 2, 5, 6, MOST}) {
            d.due("thing " + thing, x.thing(thing, 0), BAD);
        }
        d.due("what 0", x.thing(0, 0), 10);
        d.due("what 7", x.thing(0, 7), 3);
        d.due("the last", x.thing(1, 4), 1);
    }

    private static void holdsTellsFive() {
        EscrowLand x = Due.told("e2,3;g10,2,4,0;");
        for (int what : new int[] {LEAST, -1, 5, 6, MOST}) {
            d.due("holds " + what, x.holds(what), BAD);
        }
        x.days(1);
        x.days(1);
        int[] want = {0, 2, 3, 4, 0};
        for (int what = 0; what < 5; what++) {
            d.due("holds " + what, x.holds(what), want[what]);
        }
        x.putBack(0);
        d.due("cost", x.holds(0), 19);
        d.due("alike", x.holds(4), 1);
    }
}
