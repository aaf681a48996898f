import java.math.BigInteger;

/** The edges of what is FORETOLD, promises 16 to 29: a test for each sentence that names one. */
public final class EdgesOfForetoldTest implements Answers {
    private static final int[] NO_WHATS = {LEAST, -1, 2, 3, MOST};

    private static final Due d = new Due();

    public static void main(String[] args) {
        aheadBy0To60Days();
        aheadGoesBeyondDay999();
        aheadIs0To99();
        aheadNothingIsPutBack();
        offAheadOfAll();
        lostBehindTheNextDays();
        lostWithin60Days();
        lostIsMoreThanMay();
        lostIsNotNow();
        lostTheFirst();
        lostArePeopleAlone();
        cheapestOf1To24Days();
        cheapestFirstDayIsBit0();
        cheapestAlikeIsMayOrLess();
        cheapestFromWhatItIsNow();
        cheapestOfSeveralTheLeastBits();
        cheapestOfWhatStopped();
        cheapestOfSeasons();
        cheapestRefusesInOrder();
        matchOfNoPeople();
        matchOfOne();
        matchOfSix();
        matchAmongOthers();
        matchOfSeveralTheFirst();
        matchRefusesInOrder();
        gainOfNoThings();
        gainAtTheMost();
        gainRefuses();
        seldomM1To60();
        seldomK1To30();
        seldomLooksAheadOfPuttingBack();
        seldomLooksAt60Days();
        seldomIsTheMostOfAll();
        seldomOfWhatStopped();
        seldomOfPeople();
        roundIsAMultipleOf14();
        roundIsAMultipleOfBys();
        roundWithin100Days();
        roundIsAsItIsNow();
        roundOfAllThings();
        stealthOf1To12Days();
        stealthAtTheEndOfARow();
        stealthBitsOfNoneAndAll();
        stealthBeyondALane();
        stealthTwiceOfEachKind();
        stealthRefusesInOrder();
        whoOf1To12Days();
        whoBitsOfNoneAndMost();
        whoRefusesInOrder();
        leastMayOf0To60Days();
        leastMayAboveMay();
        leastMayBetween();
        oddsOfNoneAndAll();
        oddsInLowestTerms();
        oddsOfWhatStopped();
        oddsRefusesInOrder();
        storeOf1To60Days();
        storeOfMayOrLess();
        storeFeesAside();
        storeOfWhatStopped();
        drawnOf0To60Days();
        drawnSeeds();
        drawnIsPutBackIfItCanBe();
        drawnByLargeRests();
        d.end();
    }

    private static void aheadBy0To60Days() {
        EscrowLand x = Due.told("e0,0;g10,1,1,0;f60,1,1,0;");
        for (int n = 0; n <= 60; n++) {
            d.due("grows, ahead " + n, x.ahead(0, n), 10 + n);
            d.due("falls, ahead " + n, x.ahead(1, n), 60 - n);
            d.due("all off, ahead " + n, x.offAhead(n), 2 * n);
        }
        for (int n : new int[] {LEAST, -1, 61, 62, MOST}) {
            d.due("ahead " + n, x.ahead(0, n), BAD);
            d.due("all off, ahead " + n, x.offAhead(n), BAD);
        }
        for (int thing : new int[] {LEAST, -1, 2, 6, MOST}) {
            d.due("ahead of " + thing, x.ahead(thing, 0), BAD);
        }
        d.due("nothing changed", x.count(2), 0);
        for (int n : new int[] {LEAST, -1, 0, 60, 61, MOST}) {
            d.due("no land, ahead " + n, new EscrowLand().ahead(0, n), BAD);
            d.due("no land, all off " + n, new EscrowLand().offAhead(n), STATE);
        }
    }

    private static void aheadGoesBeyondDay999() {
        EscrowLand x = Due.told("e9,0;s5,3,1,0;p0,9,1,0;");
        Due.pass(x, 999);
        d.due("seasons at 999", x.ahead(0, 0), 8);
        d.due("seasons at 1000", x.ahead(0, 1), 5);
        d.due("seasons at 1059", x.ahead(0, 60), 8);
        d.due("all off at 1059: a person stopped at 99", x.offAhead(60), 3 + 99);
        d.due("day 999 still", x.count(2), 999);
    }

    private static void aheadIs0To99() {
        EscrowLand x = Due.told("e0,0;g60,9,1,0;f9,5,1,0;w60,1,1,0;w3,8,1,0;");
        int[][] is = {{0, 4, 96}, {0, 5, 99}, {0, 60, 99}, {1, 1, 4}, {1, 2, 0}, {1, 60, 0}, {2, 54, 99}, {2, 55, 99},
            {2, 56, 98}, {2, 57, 99}, {3, 6, 3}, {3, 7, 0}, {3, 8, 1}};
        for (int[] one : is) {
            d.due("thing " + one[0] + ", ahead " + one[1], x.ahead(one[0], one[1]), one[2]);
        }
    }

    private static void aheadNothingIsPutBack() {
        EscrowLand x = Due.told("e0,0;g10,1,1,0;p10,1,1,0;");
        x.days(2);
        d.due("from what it is", x.ahead(0, 3), 15);
        d.due("is", x.thing(0, 0), 12);
        x.putBack(0);
        d.due("put back", x.ahead(0, 3), 13);
        d.due("acts", x.count(4), 3);
        d.due("all off", x.offAhead(3), 3 + 5);
    }

    private static void offAheadOfAll() {
        EscrowLand x = Due.told("e0,0;" + "g0,9,1,0;".repeat(6));
        d.due("none now", x.offAhead(0), 0);
        d.due("six by 9", x.offAhead(1), 54);
        d.due("six by 99", x.offAhead(60), 594);
        d.due("none of what can not fall", Due.told("e0,0;f0,9,1,0;").offAhead(60), 0);
    }

    private static void isLost(String how, EscrowLand x, int day, int who) {
        d.due("lost, " + how + ": the day", x.lost(0), day);
        d.due("lost, " + how + ": who", x.lost(1), who);
    }

    private static void lostBehindTheNextDays() {
        isLost("the first day", Due.told("e0,0;p5,1,1,0;"), 1, 0);
        isLost("a widow, the 7th day", Due.told("e0,0;w50,8,1,0;"), 7, 0);
        EscrowLand x = Due.told("e0,0;w50,8,1,0;");
        x.days(5);
        isLost("from day 5 on", x, 2, 0);
        for (int what : NO_WHATS) {
            d.due("lost " + what, x.lost(what), BAD);
            d.due("no land: lost " + what, new EscrowLand().lost(what), STATE);
        }
    }

    private static void lostWithin60Days() {
        // By 9 it is off by 7 behind day 63.
        EscrowLand x = Due.told("e6,0;p5,9,1,0;");
        isLost("the 63rd day", x, NONE, NONE);
        x.days(2);
        isLost("the 61st day", x, NONE, NONE);
        x.days(1);
        isLost("the 60th day", x, 60, 0);
        x.days(1);
        isLost("the 59th day", x, 59, 0);
    }

    private static void lostIsMoreThanMay() {
        for (int may = 0; may <= 9; may++) {
            isLost("may " + may, Due.told("e" + may + ",0;p5,1,1,0;"), may + 1, 0);
        }
        // Each 7th day she is 0 again.
        isLost("never", Due.told("e9,0;w0,5,1,0;"), NONE, NONE);
    }

    private static void lostIsNotNow() {
        // By 1 a widow is off by 6 behind 6 days, by 5 behind 7, by 6 behind 8.
        EscrowLand x = Due.told("e5,0;w50,1,1,0;");
        x.days(6);
        d.due("not alike now", x.thing(0, 6), 0);
        isLost("the second day from now", x, 2, 0);
        x.days(2);
        isLost("off more and more", x, 1, 0);
    }

    private static void lostTheFirst() {
        isLost("both", Due.told("e0,0;g0,1,1,0;p5,1,1,0;w5,1,1,0;"), 1, 1);
        isLost("the second is the sooner one", Due.told("e0,0;p5,2,1,0;w5,1,1,0;"), 1, 1);
        isLost("of six the last", Due.told("e0,0;" + "p5,9,1,0;".repeat(5) + "w9,8,1,0;"), 7, 5);
    }

    private static void lostArePeopleAlone() {
        isLost("nobody there", Due.told("e0,0;g0,9,1,0;f60,9,1,0;s9,9,1,0;"), NONE, NONE);
        isLost("things are off, a person is not", Due.told("e9,0;g0,9,1,0;p0,9,1,0;"), NONE, NONE);
    }

    private static void costs(String how, EscrowLand x, int thing, int n, int cost, int bits) {
        d.due("cheapest, " + how + ": cost", x.cheapest(thing, n, 0), cost);
        d.due("cheapest, " + how + ": days", x.cheapest(thing, n, 1), bits);
    }

    private static void cheapestOf1To24Days() {
        EscrowLand x = Due.told("e0,5;g10,1,2,0;");
        for (int n = 1; n <= 24; n++) {
            costs("each of " + n, x, 0, n, 7 * n, (1 << n) - 1);
        }
        for (int n : new int[] {LEAST, -1, 0, 25, 26, MOST}) {
            d.due("cheapest of " + n, x.cheapest(0, n, 0), BAD);
        }
        costs("the greatest", Due.told("e0,20;f60,9,9,0;"), 0, 24, 24 * 101, (1 << 24) - 1);
    }

    private static void cheapestFirstDayIsBit0() {
        costs("the first of ten", Due.told("e9,20;g10,1,1,0;"), 0, 10, 21, 1);
        // Behind the 10th day at the latest, the 15th at the earliest, at most 10 apart: the 5th is the first way.
        costs("the 5th and the 15th", Due.told("e9,20;g10,1,1,0;"), 0, 24, 55, 1 << 4 | 1 << 14);
    }

    private static void cheapestAlikeIsMayOrLess() {
        for (int may = 0; may <= 9; may++) {
            EscrowLand x = Due.told("e" + may + ",1;g10,1,1,0;");
            if (may > 0) {
                costs("up to may " + may, x, 0, may, 0, 0);
            }
            costs("beyond may " + may, x, 0, may + 1, 2, 1);
        }
    }

    private static void cheapestFromWhatItIsNow() {
        EscrowLand x = Due.told("e0,3;g10,1,2,0;");
        x.allow(9);
        x.days(9);
        costs("one day on", x, 0, 1, 23, 1);
        costs("ten days on", x, 0, 10, 23, 1);
        x.days(15);
        costs("off by 25 then", x, 0, 1, 53, 1);
        x.putBack(0);
        costs("put back now", x, 0, 9, 0, 0);
    }

    private static void cheapestOfSeveralTheLeastBits() {
        // The 2nd day alone costs 2, as the 1st and the 2nd do.
        costs("2 rather than 3", Due.told("e1,0;g10,1,1,0;"), 0, 3, 2, 2);
        // Without a fee every way costs as much as the last day it is put back on: that is the 2nd.
        costs("the same of what falls", Due.told("e1,0;f10,1,1,0;"), 0, 3, 2, 2);
        costs("for nothing: not done", Due.told("e0,0;f0,1,1,0;"), 0, 24, 0, 0);
    }

    private static void cheapestOfWhatStopped() {
        EscrowLand x = Due.told("e3,2;g60,9,1,0;f3,9,1,0;f5,9,1,0;");
        x.days(10);
        costs("99 of 60", x, 0, 1, 41, 1);
        costs("3 of 3 is alike", x, 1, 24, 0, 0);
        costs("5 of 5 is not", x, 2, 24, 24 * 7, (1 << 24) - 1);
    }

    private static void cheapestOfSeasons() {
        EscrowLand x = Due.told("e0,2;s30,5,3,0;");
        costs("each day", x, 0, 2, 34, 3);
        x.days(1);
        costs("back by itself", x, 0, 1, 0, 0);
        costs("the second day", x, 0, 2, 17, 2);
        costs("all but the first", x, 0, 24, 23 * 17, (1 << 24) - 2);
        costs("may be off by 5", Due.told("e5,2;s30,5,3,0;"), 0, 24, 0, 0);
        costs("may be off by 4", Due.told("e4,2;s30,5,3,0;"), 0, 1, 17, 1);
    }

    private static void cheapestRefusesInOrder() {
        EscrowLand x = Due.told("e0,0;g0,1,1,0;p5,1,1,0;w5,1,1,0;");
        d.due("a person", x.cheapest(1, 1, 0), STATE);
        d.due("a widow", x.cheapest(2, 24, 1), STATE);
        d.due("BAD ahead of STATE: n 0", x.cheapest(1, 0, 0), BAD);
        d.due("BAD ahead of STATE: n 25", x.cheapest(1, 25, 0), BAD);
        d.due("BAD ahead of STATE: what", x.cheapest(2, 1, 2), BAD);
        for (int what : NO_WHATS) {
            d.due("what " + what, x.cheapest(0, 1, what), BAD);
        }
        for (int thing : new int[] {LEAST, -1, 3, 6, MOST}) {
            d.due("thing " + thing, x.cheapest(thing, 1, 0), BAD);
        }
        d.due("no land", new EscrowLand().cheapest(0, 1, 0), BAD);
    }

    private static void matches(String how, EscrowLand x, int off, int... places) {
        d.due("match, " + how, x.match(-1), off);
        for (int k = 0; k < places.length; k++) {
            d.due("match, " + how + ": " + k, x.match(k), places[k]);
        }
    }

    private static void matchOfNoPeople() {
        EscrowLand x = Due.told("e0,0;g0,9,1,0;f60,9,1,0;s9,9,1,0;");
        x.days(3);
        matches("nobody", x, 0, 0, 1, 2);
    }

    private static void matchOfOne() {
        EscrowLand x = Due.told("e0,0;g0,9,1,0;p5,1,1,0;");
        x.days(3);
        matches("one", x, 3, 0, 1);
        EscrowLand w = Due.told("e0,0;w5,1,1,0;");
        w.days(2);
        matches("one widow", w, 2, 0);
    }

    private static void matchOfSix() {
        EscrowLand x = Due.told("e0,0;p0,9,1,0;w10,9,1,0;p20,9,1,0;w30,9,1,0;p40,9,1,0;w50,9,1,0;");
        matches("each in its place", x, 0, 0, 1, 2, 3, 4, 5);
        x.send(0, 5);
        x.send(1, 4);
        x.send(2, 3);
        matches("turned round", x, 0, 5, 4, 3, 2, 1, 0);
        d.due("nothing changed", x.thing(0, 0), 50);
        d.due("off as they are", x.holds(3), 50 + 30 + 10 + 10 + 30 + 50);
        x.send(0, 1);
        x.days(9);
        // They are 41, 42, 31, 12, 11, 1.
        matches("a little off", x, 1 + 8 + 1 + 8 + 1 + 1, 4, 5, 3, 2, 1, 0);
    }

    private static void matchAmongOthers() {
        EscrowLand x = Due.told("e0,0;p10,9,1,0;g0,1,1,0;p50,9,1,0;s9,9,1,0;w30,9,1,0;");
        x.send(0, 2);
        x.send(2, 4);
        // They are 50, 30, 10, in the places of 10, 50, 30.
        matches("three among five", x, 0, 2, 1, 4, 3, 0);
    }

    private static void matchOfSeveralTheFirst() {
        matches("of the same", Due.told("e0,0;" + "p9,1,1,0;".repeat(6)), 0, 0, 1, 2, 3, 4, 5);
        EscrowLand x = Due.told("e0,0;p10,9,1,0;p10,9,1,0;p50,9,1,0;");
        x.send(0, 2);
        matches("0 and 1 rather than 1 and 0", x, 0, 2, 0, 1);
        EscrowLand y = Due.told("e0,0;p10,9,1,0;p30,9,1,0;p50,9,1,0;");
        y.send(0, 2);
        y.send(1, 2);
        // They are 50, 10, 30: each has its place.
        matches("one way alone", y, 0, 2, 0, 1);
        EscrowLand z = Due.told("e0,0;p20,1,1,0;p10,1,1,0;");
        z.days(15);
        matches("35 and 25: 30 either way", z, 30, 0, 1);
        z.send(0, 1);
        matches("25 and 35: 30 either way", z, 30, 0, 1);
    }

    private static void matchRefusesInOrder() {
        EscrowLand x = Due.told("e0,0;p5,1,1,0;g5,1,1,0;");
        for (int k : new int[] {LEAST, -2, 2, 5, 6, MOST}) {
            d.due("match " + k, x.match(k), BAD);
        }
        for (int k : new int[] {LEAST, -2, -1, 0, 6, MOST}) {
            d.due("no land: match " + k, new EscrowLand().match(k), STATE);
        }
    }

    private static void gainOfNoThings() {
        EscrowLand x = Due.told("e0,0;g0,9,1,1;");
        x.days(1);
        d.due("no thing of side 0", x.gain(0), 10000);
        d.due("side 1", x.gain(1), 10009);
        x.putBack(0);
        d.due("put back", x.gain(1), 10000);
    }

    private static void gainAtTheMost() {
        EscrowLand more = Due.told("e0,0;" + "g0,9,1,0;".repeat(6));
        more.days(24);
        d.due("6 times 99", more.gain(0), 10594);
        EscrowLand less = Due.told("e0,0;" + "f60,9,1,1;".repeat(6));
        less.days(24);
        d.due("6 times 60 less", less.gain(1), 9640);
        EscrowLand both = Due.told("e0,0;f60,9,1,1;g0,3,1,1;p9,1,1,0;");
        both.days(2);
        d.due("more and less", both.gain(1), 10000 - 18 + 6);
        d.due("the other side", both.gain(0), 10002);
    }

    private static void gainRefuses() {
        EscrowLand x = Due.told("e0,0;g0,9,1,1;");
        for (int side : NO_WHATS) {
            d.due("gain " + side, x.gain(side), BAD);
            d.due("no land: gain " + side, new EscrowLand().gain(side), STATE);
        }
        d.due("no land: gain 0", new EscrowLand().gain(0), STATE);
    }

    private static void seldomM1To60() {
        EscrowLand x = Due.told("e0,0;g0,1,1,0;f60,1,1,0;");
        for (int m = 1; m <= 60; m++) {
            d.due("seldom of what grows, " + m, x.seldom(0, m), Math.min(m, 30));
            d.due("seldom of what falls, " + m, x.seldom(1, m), Math.min(m, 30));
        }
        for (int m : new int[] {LEAST, -1, 0, 61, 62, MOST}) {
            d.due("seldom by " + m, x.seldom(0, m), BAD);
        }
        for (int thing : new int[] {LEAST, -1, 2, 6, MOST}) {
            d.due("seldom of " + thing, x.seldom(thing, 1), BAD);
        }
        d.due("no land", new EscrowLand().seldom(0, 1), BAD);
    }

    private static void seldomK1To30() {
        EscrowLand x = Due.told("e0,0;g0,2,1,0;g0,9,1,0;");
        d.due("by 2, 1", x.seldom(0, 1), NONE);
        d.due("by 2, 2", x.seldom(0, 2), 1);
        d.due("by 2, 59", x.seldom(0, 59), 29);
        d.due("by 2, 60", x.seldom(0, 60), 30);
        d.due("by 9, 8", x.seldom(1, 8), NONE);
        d.due("by 9, 9", x.seldom(1, 9), 1);
        d.due("by 9, 17", x.seldom(1, 17), 1);
        d.due("by 9, 18", x.seldom(1, 18), 2);
    }

    private static void seldomLooksAheadOfPuttingBack() {
        EscrowLand x = Due.told("e0,0;g10,3,1,0;");
        d.due("3 is seen ahead of it", x.seldom(0, 2), NONE);
        d.due("6 is seen ahead of it", x.seldom(0, 5), 1);
        x.days(20);
        d.due("put back now: it is not off by 60", x.seldom(0, 3), 1);
        d.due("nothing is put back", x.thing(0, 0), 70);
        d.due("may is another thing", x.allow(9), 0);
        d.due("the same", x.seldom(0, 3), 1);
    }

    private static void seldomLooksAt60Days() {
        // By 9 from day 0: 3 more in days 1 to 30, and in 31 to 60, but 4 in 61 to 90.
        EscrowLand x = Due.told("e0,0;p5,9,1,0;");
        d.due("from day 0", x.seldom(0, 3), 30);
        x.days(2);
        d.due("day 63 is the 61st", x.seldom(0, 3), 30);
        x.days(1);
        d.due("day 63 is the 60th", x.seldom(0, 3), 29);
        // Put back behind days 23 and 44, she is off by 8 at most up to day 62, the 60th, but by 9 behind day 63.
        EscrowLand w = Due.told("e0,0;w50,4,1,0;");
        w.days(2);
        d.due("the 61st does not count", w.seldom(0, 8), 21);
    }

    private static void seldomIsTheMostOfAll() {
        // Put back ahead of odd days alone, it is off by 3 and 6; ahead of even ones by 9: k must be even.
        EscrowLand s = Due.told("e0,0;s3,9,1,0;");
        s.days(1);
        d.due("no odd k, but 30", s.seldom(0, 6), 30);
        d.due("no k", s.seldom(0, 5), NONE);
        // In any 7 days a widow by 1 is 1 less once; in some 6 days she is not.
        EscrowLand w = Due.told("e0,0;w5,1,1,0;");
        w.days(3);
        d.due("not 6, but 7", w.seldom(0, 5), 7);
    }

    private static void seldomOfWhatStopped() {
        EscrowLand x = Due.told("e0,0;f3,9,1,0;f0,9,1,0;g60,9,1,0;");
        d.due("off by 3 at most", x.seldom(0, 3), 30);
        d.due("and at least", x.seldom(0, 2), NONE);
        d.due("never off", x.seldom(1, 1), 30);
        d.due("off by 39 at most", x.seldom(2, 39), 30);
        d.due("38", x.seldom(2, 38), 4);
        d.due("36", x.seldom(2, 36), 4);
        d.due("35", x.seldom(2, 35), 3);
    }

    private static void seldomOfPeople() {
        EscrowLand x = Due.told("e0,0;p5,1,1,0;w50,9,1,0;");
        x.days(3);
        d.due("a person as if", x.seldom(0, 4), 4);
        d.due("a widow by 9, 8", x.seldom(1, 8), NONE);
        d.due("a widow by 9, 9: one 7th day at most", x.seldom(1, 9), 7);
        d.due("nobody is put back", x.thing(0, 0), 8);
    }

    private static void roundIsAMultipleOf14() {
        d.due("seasons, not 2", Due.told("e0,0;s30,5,1,0;").round(), 14);
        d.due("what can not fall, not 1", Due.told("e0,0;f0,5,1,0;").round(), 14);
        d.due("a widow by 1", Due.told("e0,0;w0,1,1,0;").round(), NONE);
        d.due("a widow by 7, not 7", Due.told("e0,0;w0,7,1,0;").round(), 14);
        d.due("no land", new EscrowLand().round(), STATE);
    }

    private static void roundIsAMultipleOfBys() {
        // From 0 on, by 1 and by 2 she is more by more than less; by 9 the round is too far.
        int[] rounds = {NONE, NONE, 42, 28, 70, 42, 14, 56, NONE};
        for (int by = 1; by <= 9; by++) {
            d.due("a widow by " + by, Due.told("e0,0;w0," + by + ",1,0;").round(), rounds[by - 1]);
        }
        d.due("by 3 and 4", Due.told("e0,0;w0,3,1,0;w0,4,1,0;").round(), 84);
        d.due("by 6 and 4", Due.told("e0,0;w0,6,1,0;w0,4,1,0;").round(), 84);
        d.due("by of others does not count", Due.told("e0,0;s9,9,1,0;f0,8,1,0;w0,3,1,0;").round(), 42);
    }

    private static void roundWithin100Days() {
        d.due("84", Due.told("e0,0;w0,3,1,0;w0,4,1,0;s1,1,1,0;").round(), 84);
        d.due("126 is too far", Due.told("e0,0;w0,9,1,0;").round(), NONE);
        d.due("140 is too far", Due.told("e0,0;w0,4,1,0;w0,5,1,0;").round(), NONE);
        d.due("168 is too far", Due.told("e0,0;w0,8,1,0;w0,3,1,0;").round(), NONE);
    }

    private static void roundIsAsItIsNow() {
        EscrowLand g = Due.told("e0,0;g60,9,1,0;f20,9,1,0;");
        d.due("grows and falls yet", g.round(), NONE);
        g.days(4);
        d.due("99 tomorrow", g.round(), NONE);
        g.days(1);
        d.due("99 and 0", g.round(), 14);
        g.putBack(1);
        d.due("falls again", g.round(), NONE);
        EscrowLand p = Due.told("e0,0;p60,1,1,0;");
        d.due("a person grows", p.round(), NONE);
        Due.pass(p, 38);
        d.due("98", p.round(), NONE);
        p.days(1);
        d.due("99", p.round(), 14);
        EscrowLand s = Due.told("e0,0;s30,5,1,0;");
        s.days(1);
        d.due("as it is, not as it was", s.round(), 14);
        EscrowLand low = Due.told("e0,0;s3,9,1,0;");
        low.days(1);
        low.putBack(0);
        d.due("3 never comes again", low.round(), NONE);
    }

    private static void roundOfAllThings() {
        d.due("six", Due.told("e0,0;" + "f0,9,1,0;".repeat(6)).round(), 14);
        d.due("the sixth a widow", Due.told("e0,0;" + "f0,9,1,0;".repeat(5) + "w0,3,1,0;").round(), 42);
        d.due("the sixth grows", Due.told("e0,0;" + "f0,9,1,0;".repeat(5) + "g0,9,1,0;").round(), NONE);
        EscrowLand x = Due.told("e0,0;" + "p9,9,1,0;".repeat(6));
        d.due("six persons", x.round(), NONE);
        Due.read(x, "e0,0;s30,5,1,0;");
        d.due("those of the land before do not count", x.round(), 14);
    }

    private static void stealthOf1To12Days() {
        EscrowLand x = Due.told("e0,0;g0,1,1,0;s30,3,1,0;");
        x.row(0, 0, 40);
        for (int n = 1; n <= 12; n++) {
            x.set(0, n - 1, n + 3 * (n % 2));
            d.due("as it is, " + n + " days", x.stealth(0, 0, n), 64);
        }
        for (int n : new int[] {LEAST, -1, 0, 13, 14, 40, MOST}) {
            d.due("stealth of " + n, x.stealth(0, 0, n), BAD);
        }
        x.set(0, 11, 13);
        d.due("11 days are so", x.stealth(0, 0, 11), 64);
        d.due("the 12th is not", x.stealth(0, 0, 12), 0);
        x.set(0, 0, 5);
        d.due("the 1st is not", x.stealth(0, 0, 11), 0);
    }

    private static void stealthAtTheEndOfARow() {
        EscrowLand x = Due.told("e0,0;g0,1,1,0;");
        x.row(0, 0, 40);
        for (int n = 1; n <= 12; n++) {
            x.set(0, 27 + n, 2 * n);
        }
        d.due("twelve up to the end", x.stealth(0, 28, 12), 1);
        d.due("twelve beyond it", x.stealth(0, 29, 12), PLACE);
        d.due("eleven up to the end", x.stealth(0, 29, 11), 0);
        d.due("one, the last", x.stealth(0, 39, 1), 0);
        d.due("one behind it", x.stealth(0, 40, 1), PLACE);
        d.due("ahead of the first", x.stealth(0, -1, 1), PLACE);
        d.due("most", x.stealth(0, MOST, 12), PLACE);
        d.due("least", x.stealth(0, LEAST, 12), PLACE);
        x.row(1, 0, 1);
        d.due("a row of one", x.stealth(1, 0, 1), 0);
        d.due("two of one", x.stealth(1, 0, 2), PLACE);
    }

    private static void stealthBitsOfNoneAndAll() {
        EscrowLand x = Due.told("e0,0;" + "f0,9,1,0;".repeat(6));
        x.row(0, 0, 12);
        d.due("all six, and as it is", x.stealth(0, 0, 12), 127);
        x.set(0, 11, 1);
        d.due("none", x.stealth(0, 0, 12), 0);
        EscrowLand y = Due.told("e0,0;" + "g0,1,1,0;".repeat(6));
        Due.fill(y, 0, 0, 7, 6);
        d.due("one of six", y.stealth(0, 0, 1), 63);
        d.due("none of six", y.stealth(0, 1, 1), 64);
    }

    private static void stealthBeyondALane() {
        EscrowLand x = Due.told("e0,0;" + "g0,9,1,0;".repeat(6));
        x.days(11);
        Due.fill(x, 0, 1, 594, 594);
        d.due("594 in shorts", x.stealth(0, 0, 2), 127);
        Due.fill(x, 0, 2, 594, 594 + 65536);
        d.due("594 in ints", x.stealth(0, 0, 1), 127);
        d.due("594 and 65536 in ints", x.stealth(0, 1, 1), 0);
        Due.fill(x, 0, 0, 594);
        d.due("594 has no room in bytes", x.stealth(0, 0, 1), 0);
        EscrowLand y = Due.told("e0,0;g0,8,1,0;g0,8,1,0;");
        y.days(7);
        Due.fill(y, 0, 0, 128);
        d.due("128 is less than 0 in bytes", y.stealth(0, 0, 1), 0);
        Due.fill(y, 0, 1, 128);
        d.due("128 in shorts", y.stealth(0, 0, 1), 64);
    }

    private static void stealthTwiceOfEachKind() {
        EscrowLand x = Due.told("e0,0;g0,1,1,0;f60,2,1,0;s30,3,1,0;p40,1,1,0;w50,4,1,0;");
        x.days(6);
        // Off as it is behind the 7th and 8th day from the first: 7 14 3 7 3, and 8 16 0 8 2.
        Due.fill(x, 0, 0, 34, 34, 35, 36, 36, 38, 37, 34, 38, 37);
        d.due("as it is", x.stealth(0, 0, 2), 64);
        d.due("what grows, or a person", x.stealth(0, 2, 2), 1 + 8);
        d.due("what falls", x.stealth(0, 4, 2), 2);
        d.due("seasons", x.stealth(0, 6, 2), 4);
        d.due("a widow: 7 less than she was, then 5", x.stealth(0, 8, 2), 16);
    }

    private static void stealthRefusesInOrder() {
        EscrowLand none = new EscrowLand();
        none.row(0, 0, 1);
        d.due("no land", none.stealth(0, 0, 1), STATE);
        d.due("STATE ahead of BAD: row", none.stealth(8, 0, 1), STATE);
        d.due("STATE ahead of BAD: n", none.stealth(0, 0, 0), STATE);
        d.due("STATE ahead of NULL", none.stealth(1, 0, 1), STATE);
        d.due("STATE ahead of PLACE", none.stealth(0, 5, 1), STATE);
        d.due("status", none.status(), 0);
        EscrowLand x = Due.told("e0,0;g0,1,1,0;");
        d.due("BAD ahead of NULL: n 0", x.stealth(0, 0, 0), BAD);
        d.due("BAD ahead of NULL: n 13", x.stealth(0, 0, 13), BAD);
        d.due("BAD ahead of NULL: row", x.stealth(8, 0, 1), BAD);
        d.due("NULL ahead of PLACE", x.stealth(0, -1, 1), NULL);
        d.due("status", x.status(), 1);
        x.row(0, 0, 0);
        d.due("BAD ahead of PLACE", x.stealth(0, -1, 13), BAD);
        d.due("PLACE", x.stealth(0, 0, 1), PLACE);
        d.due("status", x.status(), 2);
    }

    private static void whoOf1To12Days() {
        EscrowLand x = Due.told("e0,0;p10,9,1,0;g10,2,1,0;");
        x.row(0, 0, 40);
        for (int n = 1; n <= 12; n++) {
            x.set(0, 27 + n, n < 9 ? 10 : 11);
            d.due("a person, " + n + " days", x.who(0, 0, 28, n), n < 7 ? 16 + 32 : 16);
        }
        for (int n : new int[] {LEAST, -1, 0, 13, 14, 40, MOST}) {
            d.due("who of " + n, x.who(0, 0, 0, n), BAD);
        }
        d.due("beyond the end", x.who(0, 0, 29, 12), PLACE);
        d.due("behind the last", x.who(0, 0, 40, 1), PLACE);
        d.due("ahead of the first", x.who(0, 0, -1, 1), PLACE);
        d.due("most", x.who(0, 0, MOST, 12), PLACE);
        d.due("least", x.who(0, 0, LEAST, 12), PLACE);
        x.set(0, 39, 12);
        d.due("the 12th is not so", x.who(0, 0, 28, 12), 0);
        d.due("11 are so", x.who(0, 0, 28, 11), 16);
    }

    private static void whoBitsOfNoneAndMost() {
        EscrowLand low = Due.told("e0,0;f0,5,1,0;");
        low.days(1);
        Due.fill(low, 0, 0, 0, 1, 5);
        d.due("0 on an odd day: all but what grows", low.who(0, 0, 0, 1), 4 + 8 + 16 + 32);
        d.due("1: none", low.who(0, 0, 1, 1), 0);
        d.due("5: what grows", low.who(0, 0, 2, 1), 2);
        EscrowLand high = Due.told("e0,0;g60,8,1,0;");
        high.days(8);
        Due.fill(high, 0, 0, 99, 91, 98, 100);
        d.due("99 on an even day: all but what falls", high.who(0, 0, 0, 1), 2 + 8 + 16 + 32);
        d.due("91: what falls", high.who(0, 0, 1, 1), 4);
        d.due("98: none", high.who(0, 0, 2, 1), 0);
        d.due("100: none", high.who(0, 0, 3, 1), 0);
        EscrowLand week = Due.told("e0,0;w50,7,1,0;");
        week.days(6);
        Due.fill(week, 0, 0, 43, 51, 57);
        d.due("the 7th day: a widow, or what falls", week.who(0, 0, 0, 1), 4 + 32);
        d.due("the 7th day: a person", week.who(0, 0, 1, 1), 16);
        d.due("the 7th day: grows, or an even day", week.who(0, 0, 2, 1), 2 + 8);
        d.due("her kind stays", week.kind(0), 5);
    }

    private static void whoRefusesInOrder() {
        EscrowLand none = new EscrowLand();
        none.row(0, 0, 1);
        d.due("no land: no such thing", none.who(0, 0, 0, 1), BAD);
        d.due("BAD ahead of NULL", none.who(0, 1, 0, 1), BAD);
        EscrowLand x = Due.told("e0,0;g0,1,1,0;");
        for (int thing : new int[] {LEAST, -1, 1, 6, MOST}) {
            d.due("who of " + thing, x.who(thing, 0, 0, 1), BAD);
        }
        d.due("BAD ahead of NULL: n", x.who(0, 0, 0, 13), BAD);
        d.due("status", x.status(), 0);
        d.due("NULL ahead of PLACE", x.who(0, 0, -1, 1), NULL);
        d.due("status", x.status(), 1);
        x.row(0, 0, 0);
        d.due("PLACE", x.who(0, 0, 0, 1), PLACE);
        d.due("status", x.status(), 2);
        x.row(0, 0, 1);
        d.due("0 is what falls", x.who(0, 0, 0, 1), 4);
        d.due("status", x.status(), 0);
    }

    private static void leastMayOf0To60Days() {
        EscrowLand x = Due.told("e0,0;g0,1,1,0;f10,2,1,0;");
        for (int n = 0; n <= 60; n++) {
            d.due("least may of " + n, x.leastMay(n), Math.max(n, Math.min(2 * n, 10)));
        }
        for (int n : new int[] {LEAST, -1, 61, 62, MOST}) {
            d.due("least may of " + n, x.leastMay(n), BAD);
            d.due("no land: least may of " + n, new EscrowLand().leastMay(n), STATE);
        }
        d.due("no land: least may of 0", new EscrowLand().leastMay(0), STATE);
    }

    private static void leastMayAboveMay() {
        EscrowLand x = Due.told("e0,0;g0,9,1,0;");
        d.due("9", x.leastMay(1), 9);
        d.due("18 is no may of a land", x.leastMay(2), 18);
        d.due("99", x.leastMay(11), 99);
        d.due("99 at most", x.leastMay(60), 99);
        d.due("0", Due.told("e9,0;f0,9,1,0;").leastMay(60), 0);
    }

    private static void leastMayBetween() {
        EscrowLand x = Due.told("e0,0;s30,5,1,0;");
        d.due("off between", x.leastMay(2), 5);
        x.days(1);
        d.due("off now", x.leastMay(0), 5);
        d.due("off now, not then", x.leastMay(1), 5);
        EscrowLand six = Due.told("e0,0;" + "f0,9,1,0;".repeat(5) + "p9,1,1,0;");
        d.due("of six the last", six.leastMay(7), 7);
    }

    private static void fraction(String how, EscrowLand x, int p, int n, long above, long below) {
        d.due("odds, " + how + ": above", x.odds(0, p, n, 0), above);
        d.due("odds, " + how + ": below", x.odds(0, p, n, 1), below);
    }

    private static void oddsOfNoneAndAll() {
        EscrowLand x = Due.told("e0,0;g10,1,1,0;");
        for (int p = 0; p <= 10; p++) {
            fraction("0 days, " + p, x, p, 0, 1, 1);
        }
        for (int n = 0; n <= 9; n++) {
            fraction("never, " + n, x, 0, n, 1, 1);
            fraction("always, " + n, x, 10, n, n == 0 ? 1 : 0, 1);
        }
        x.days(1);
        for (int p = 0; p <= 10; p++) {
            fraction("off now, " + p, x, p, 0, 0, 1);
            fraction("off more and more, " + p, x, p, 9, 0, 1);
        }
        EscrowLand nine = Due.told("e9,0;g10,1,1,0;");
        fraction("nine at most", nine, 10, 9, 1, 1);
    }

    private static void oddsInLowestTerms() {
        EscrowLand x = Due.told("e0,0;g10,1,1,0;");
        fraction("9 by 10", x, 1, 1, 9, 10);
        fraction("8 by 10", x, 2, 1, 4, 5);
        fraction("5 by 10", x, 5, 1, 1, 2);
        fraction("1 by 512", x, 5, 9, 1, 512);
        fraction("9 to the 9th by 10 to the 9th", x, 1, 9, 387420489, 1000000000);
        fraction("1 by 10 to the 9th", x, 9, 9, 1, 1000000000);
        EscrowLand eight = Due.told("e8,0;f60,1,1,0;");
        fraction("all but always", eight, 1, 9, 999999999, 1000000000);
        fraction("all but always, by 5", eight, 5, 9, 511, 512);
        fraction("all but always, by 9", eight, 9, 9, 1000000000 - 387420489, 1000000000);
        fraction("alike is may or less", Due.told("e1,0;f60,1,1,0;"), 5, 2, 3, 4);
        fraction("more than may", Due.told("e1,0;f60,2,1,0;"), 5, 2, 1, 4);
    }

    private static void oddsOfWhatStopped() {
        fraction("0 stays 0", Due.told("e0,0;f0,9,1,0;"), 7, 9, 1, 1);
        fraction("off by 3 at most", Due.told("e3,0;f3,9,1,0;"), 10, 9, 1, 1);
        fraction("off by 4", Due.told("e3,0;f4,9,1,0;"), 10, 9, 0, 1);
        EscrowLand g = Due.told("e9,0;g60,9,1,0;");
        g.days(5);
        fraction("99 is off", g, 3, 9, 0, 1);
    }

    private static void oddsRefusesInOrder() {
        EscrowLand x = Due.told("e0,0;g0,1,1,0;f9,1,1,0;s9,1,1,0;p9,1,1,0;w9,1,1,0;");
        for (int p : new int[] {LEAST, -1, 11, MOST}) {
            d.due("odds by " + p, x.odds(0, p, 0, 0), BAD);
        }
        for (int n : new int[] {LEAST, -1, 10, MOST}) {
            d.due("odds of days " + n, x.odds(0, 0, n, 0), BAD);
        }
        for (int what : NO_WHATS) {
            d.due("odds, what " + what, x.odds(0, 0, 0, what), BAD);
        }
        for (int thing : new int[] {LEAST, -1, 5, 6, MOST}) {
            d.due("odds of thing " + thing, x.odds(thing, 0, 0, 0), BAD);
        }
        for (int thing = 2; thing < 5; thing++) {
            d.due("neither grows nor falls: " + thing, x.odds(thing, 0, 0, 0), STATE);
            d.due("BAD ahead of STATE, p: " + thing, x.odds(thing, 11, 0, 0), BAD);
            d.due("BAD ahead of STATE, n: " + thing, x.odds(thing, 0, 10, 0), BAD);
            d.due("BAD ahead of STATE, what: " + thing, x.odds(thing, 0, 0, 2), BAD);
        }
        d.due("what falls", x.odds(1, 5, 1, 1), 2);
        d.due("no land", new EscrowLand().odds(0, 0, 0, 0), BAD);
    }

    private static void storeOf1To60Days() {
        EscrowLand x = Due.told("e0,9;f20,1,2,0;");
        for (int n = 1; n <= 60; n++) {
            d.due("store of " + n, x.store(n), 2 * n);
        }
        for (int n : new int[] {LEAST, -1, 0, 61, 62, MOST}) {
            d.due("store of " + n, x.store(n), BAD);
            d.due("no land: store of " + n, new EscrowLand().store(n), STATE);
        }
        d.due("no land: store of 1", new EscrowLand().store(1), STATE);
        d.due("six of these", Due.told("e0,9;" + "f60,9,9,0;".repeat(6)).store(60), 6 * 60 * 81);
    }

    private static void storeOfMayOrLess() {
        EscrowLand x = Due.told("e3,0;f20,3,1,0;");
        d.due("3 is alike", x.store(1), 0);
        d.due("6 is not", x.store(2), 6);
        d.due("3 again", x.store(3), 6);
        d.due("6 again", x.store(4), 12);
        x.allow(2);
        d.due("3 is not", x.store(1), 3);
        x.allow(3);
        x.days(1);
        d.due("from what it is", x.store(1), 6);
        x.allow(0);
        d.due("not alike now: behind the day", x.store(1), 6);
    }

    private static void storeFeesAside() {
        EscrowLand x = Due.told("e0,20;f20,1,9,0;g20,1,9,0;s20,1,9,0;p20,1,9,0;w20,1,9,0;");
        d.due("what falls alone, no fee", x.store(1), 9);
        d.due("60 days", x.store(60), 540);
        d.due("nothing falls", Due.told("e0,20;g20,1,9,0;s20,1,9,0;p20,1,9,0;w20,9,9,0;").store(60), 0);
    }

    private static void storeOfWhatStopped() {
        d.due("5 of 9 a day", Due.told("e4,0;f5,9,2,0;").store(3), 30);
        d.due("5 is alike", Due.told("e5,0;f5,9,2,0;").store(60), 0);
        d.due("0 can not fall", Due.told("e0,0;f0,9,2,0;").store(60), 0);
    }

    private static void drawnOf0To60Days() {
        // One thing: each draw is its own; it is off by 1 from the second day on.
        EscrowLand x = Due.told("e0,1;g10,1,2,0;");
        for (int n = 0; n <= 60; n++) {
            d.due("cost of " + n, x.drawn(n, 77, 0), 3 * Math.max(n - 1, 0));
            d.due("off of " + n, x.drawn(n, 77, 1), Math.min(n, 1));
        }
        for (int n : new int[] {LEAST, -1, 61, 62, MOST}) {
            d.due("drawn of " + n, x.drawn(n, 1, 0), BAD);
            d.due("no land: drawn of " + n, new EscrowLand().drawn(n, 1, 0), STATE);
        }
        x.days(4);
        d.due("0 days: off now", x.drawn(0, 1, 1), 4);
        d.due("0 days: no cost", x.drawn(0, 1, 0), 0);
        d.due("1 day: put back first", x.drawn(1, 1, 0), 9);
        d.due("1 day: off", x.drawn(1, 1, 1), 1);
        d.due("nothing changed", x.thing(0, 0), 14);
        x.putBack(0);
        d.due("cost of these alone", x.drawn(0, 1, 0), 0);
    }

    private static void drawnSeeds() {
        EscrowLand x = Due.told("e0,1;g10,1,2,0;");
        for (int seed : new int[] {LEAST, -1, 0, 1000000, 1000001, MOST}) {
            d.due("seed " + seed, x.drawn(2, seed, 0), BAD);
            d.due("no land: seed " + seed, new EscrowLand().drawn(2, seed, 0), STATE);
        }
        d.due("seed 1", x.drawn(2, 1, 0), 3);
        d.due("seed 999999", x.drawn(2, 999999, 0), 3);
        for (int what : NO_WHATS) {
            d.due("what " + what, x.drawn(2, 1, what), BAD);
            d.due("no land: what " + what, new EscrowLand().drawn(2, 1, what), STATE);
        }
    }

    private static void drawnIsPutBackIfItCanBe() {
        EscrowLand p = Due.told("e0,1;p10,1,2,0;");
        d.due("no person: cost", p.drawn(60, 1, 0), 0);
        d.due("no person: off", p.drawn(60, 1, 1), 60);
        EscrowLand w = Due.told("e0,1;w10,1,2,0;");
        d.due("no widow: cost", w.drawn(6, 1, 0), 0);
        d.due("no widow: off", w.drawn(6, 1, 1), 6);
        EscrowLand s = Due.told("e0,20;s10,1,2,0;");
        d.due("seasons: 1 off ahead of the second day", s.drawn(2, 1, 0), 22);
        d.due("not off: no fee", s.drawn(1, 1, 0), 0);
        EscrowLand f = Due.told("e0,20;f0,1,2,0;");
        d.due("never off", f.drawn(60, 1, 0), 0);
        EscrowLand may = Due.told("e9,20;g10,1,2,0;");
        d.due("off, though alike", may.drawn(2, 1, 0), 22);
    }

    private static void drawnByLargeRests() {
        for (int seed : new int[] {1, 2, 12345, 127773, 127774, 500000, 999998, 999999}) {
            for (int things = 2; things <= 6; things++) {
                EscrowLand x = Due.told("e0,3;" + "g0,1,2,0;".repeat(things));
                int[] due = drawnByBigNumbers(things, seed, 60);
                d.due("cost by seed " + seed + " of " + things, x.drawn(60, seed, 0), due[0]);
                d.due("off by seed " + seed + " of " + things, x.drawn(60, seed, 1), due[1]);
            }
        }
    }

    /** For things that grow by 1 from 0 on, of price 2, with a fee of 3. */
    private static int[] drawnByBigNumbers(int things, int seed, int n) {
        int[] off = new int[things];
        int cost = 0;
        BigInteger x = BigInteger.valueOf(seed);
        for (int day = 0; day < n; day++) {
            x = x.multiply(BigInteger.valueOf(16807)).mod(BigInteger.valueOf(2147483647));
            int drawn = x.mod(BigInteger.valueOf(things)).intValue();
            cost += off[drawn] == 0 ? 0 : 2 * off[drawn] + 3;
            off[drawn] = 0;
            for (int thing = 0; thing < things; thing++) {
                off[thing]++;
            }
        }
        int all = 0;
        for (int one : off) {
            all += one;
        }
        return new int[] {cost, all};
    }
}
