/** Each promise of the document by answers worked out by hand: ordinary inputs, the edges, wrong inputs. */
public final class PromisesTest implements Answers {
    /**
     * MAY 2, FEE 3. Behind the days 1 to 8 these are: g 12 14 16 18 20 22 24 26; f 17 14 11 8 5 2 0 0; s 35 30 and
     * so on; p 40 41 41 42 42 43 43 44; w 50 50 50 51 51 51 47 48; all off 10 11 21 23 33 34 45 42.
     */
    private static final String FIVE = "e2,3;g10,2,4,0;f20,3,2,1;s30,5,1,0;p40,2,1,1;w50,4,1,0;";

    private static final Due d = new Due();

    public static void main(String[] args) {
        promise1NewObject();
        promise2Row();
        promise3Set();
        promise4Copy();
        promise5Drop();
        promise6Feed();
        promise7LandIsRead();
        promise7And8FirstFaultWins();
        promise7NewLandStandsInPlace();
        promise8Fault();
        promise9Undo();
        promise10Days();
        promise10DayIsAtMost999();
        promise11PutBack();
        promise12Send();
        promise13Allow();
        promise14Thing();
        promise15Holds();
        promise16And17Ahead();
        promise18Lost();
        promise19Cheapest();
        promise19OfSeveralTheLeastBits();
        promise20Match();
        promise20OfSeveralTheFirst();
        promise21Gain();
        promise22Seldom();
        promise23Round();
        promise24Stealth();
        promise25Who();
        promise26LeastMay();
        promise27Odds();
        promise28Store();
        promise29Drawn();
        promise30And31Images();
        promise32Kind();
        promise33As();
        promise34And35AskAndTrace();
        promise36Count();
        promise37Status();
        d.end();
    }

    private static void promise1NewObject() {
        EscrowLand x = new EscrowLand();
        for (int what = 0; what <= 5; what++) {
            d.due("new: count(" + what + ")", x.count(what), 0);
        }
        d.due("new: round()", x.round(), STATE);
        d.due("new: thing(0, 0)", x.thing(0, 0), BAD);
        d.due("new: fault()", x.fault(), 0);
        d.due("new: status()", x.status(), 0);
        d.due("new: undo()", x.undo(), STATE);
        d.due("new: restore(1)", x.restore(1), STATE);
        d.due("new: trace(0)", x.trace(0), NONE);
    }

    private static void promise2Row() {
        EscrowLand x = new EscrowLand();
        d.due("row(7, 2, 40)", x.row(7, 2, 40), 40);
        d.due("row(0, 0, 0)", x.row(0, 0, 0), 0);
        d.due("count(0)", x.count(0), 2);
        d.due("row(8, ..)", x.row(8, 0, 1), BAD);
        d.due("row(-1, ..)", x.row(-1, 0, 1), BAD);
        d.due("row, lane -1", x.row(0, -1, 1), BAD);
        d.due("row, lane 3", x.row(0, 3, 1), BAD);
        d.due("row, 41", x.row(0, 0, 41), BAD);
        d.due("row, -1", x.row(7, 0, -1), SIZE);
        d.due("row, least", x.row(7, 0, Integer.MIN_VALUE), SIZE);
        d.due("row, BAD ahead of SIZE", x.row(8, 0, -1), BAD);
        d.due("row is as it was", x.set(7, 39, 70000), 70000);
        d.due("row is as it was", x.set(7, 0, -70000), -70000);
        d.due("row in place of another", x.row(7, 2, 40), 40);
        d.due("a row in place of what is there is one row", x.count(0), 2);
        Due.read(x, "e0,0;g0,1,1,0;");
        d.due("items are 0 at first: the first", x.who(0, 7, 0, 1), 4);
        d.due("items are 0 at first: the last", x.who(0, 7, 39, 1), 4);
    }

    private static void promise3Set() {
        EscrowLand x = new EscrowLand();
        x.row(0, 0, 2);
        x.row(1, 1, 2);
        x.row(2, 2, 2);
        d.due("byte 127", x.set(0, 0, 127), 127);
        d.due("byte 128", x.set(0, 0, 128), -128);
        d.due("byte 511", x.set(0, 1, 511), -1);
        d.due("byte 256", x.set(0, 1, 256), 0);
        d.due("short 32767", x.set(1, 0, 32767), 32767);
        d.due("short 32768", x.set(1, 0, 32768), -32768);
        d.due("short 65541", x.set(1, 0, 65541), 5);
        d.due("int least", x.set(2, 1, Integer.MIN_VALUE), Integer.MIN_VALUE);
        d.due("set, no such row", x.set(8, 0, 0), BAD);
        d.due("set, missing", x.set(3, 0, 0), NULL);
        d.due("set, place -1", x.set(0, -1, 0), PLACE);
        d.due("set, place 2", x.set(0, 2, 0), PLACE);
        d.due("set, place most", x.set(0, Integer.MAX_VALUE, 0), PLACE);
    }

    private static void promise4Copy() {
        // 1, 2, 3 is what g, p and w are by 1 from 0 on: bits 2, 16, 32.
        EscrowLand x = Due.told("e0,0;g0,1,1,0;");
        Due.fill(x, 0, 1, 9, 1, 2, 3);
        Due.fill(x, 1, 1, 0, 0, 0, 0);
        d.due("copy to another row", x.copy(0, 1, 1, 0, 3), 3);
        d.due("copied", x.who(0, 1, 0, 3), 50);
        d.due("copy onto itself, down", x.copy(0, 1, 0, 0, 3), 3);
        d.due("copied as it was ahead", x.who(0, 0, 0, 3), 50);
        Due.fill(x, 2, 0, 1, 2, 3, 0);
        d.due("copy onto itself, up", x.copy(2, 0, 2, 1, 3), 3);
        d.due("copied as it was ahead, too", x.who(0, 2, 1, 3), 50);
        d.due("copy none at the end", x.copy(0, 4, 1, 4, 0), 0);
        d.due("copy, no such row a", x.copy(8, 0, 0, 0, 0), BAD);
        d.due("copy, no such row b", x.copy(0, 0, -1, 0, 0), BAD);
        d.due("copy, a missing", x.copy(5, 0, 0, 0, -1), NULL);
        d.due("copy, b missing", x.copy(0, 0, 5, 0, -1), NULL);
        d.due("copy, lanes, ahead of places", x.copy(0, 0, 2, 0, -1), STORE);
        d.due("copy, n -1", x.copy(0, 0, 1, 0, -1), PLACE);
        d.due("copy, i -1", x.copy(0, -1, 1, 0, 1), PLACE);
        d.due("copy, j -1", x.copy(0, 0, 1, -1, 1), PLACE);
        d.due("copy, beyond a", x.copy(0, 2, 1, 0, 3), PLACE);
        d.due("copy, beyond b", x.copy(0, 0, 1, 2, 3), PLACE);
        d.due("copy none beyond a", x.copy(0, 5, 1, 0, 0), PLACE);
        d.due("copy, sums beyond an int", x.copy(0, 1, 1, 1, Integer.MAX_VALUE), PLACE);
        d.due("copy, i most", x.copy(0, Integer.MAX_VALUE, 1, 1, 1), PLACE);
    }

    private static void promise5Drop() {
        EscrowLand x = new EscrowLand();
        x.row(3, 0, 17);
        x.row(4, 0, 0);
        d.due("drop(3)", x.drop(3), 17);
        d.due("drop(3) again", x.drop(3), NULL);
        d.due("drop(4)", x.drop(4), 0);
        d.due("count(0)", x.count(0), 0);
        d.due("drop(8)", x.drop(8), BAD);
        d.due("drop(-1)", x.drop(-1), BAD);
    }

    private static void promise6Feed() {
        EscrowLand x = new EscrowLand();
        d.due("feed(-1)", x.feed(-1), BAD);
        d.due("feed(256)", x.feed(256), BAD);
        d.due("feed(0)", x.feed(0), 1);
        for (int n = 2; n <= 100; n++) {
            d.due("feed", x.feed(255), n);
        }
        d.due("feed, 101st", x.feed(1), FULL);
        d.due("feed, BAD ahead of FULL", x.feed(256), BAD);
        d.due("count(5)", x.count(5), 100);
        d.due("land()", x.land(), FAULTY);
        d.due("count(5), read", x.count(5), 0);
    }

    private static void promise7LandIsRead() {
        d.due("one thing", Due.read(new EscrowLand(), "e0,0;g0,1,1,0;"), 1);
        d.due("the greatest numbers", Due.read(new EscrowLand(), "e9,20;w60,9,9,1;"), 1);
        d.due("two figures with a 0 ahead", Due.read(new EscrowLand(), "e09,00;p00,01,01,01;"), 1);
        d.due("six things", Due.read(new EscrowLand(),
            "e0,0;g0,1,1,0;f0,1,1,0;s0,1,1,0;p0,1,1,0;w0,1,1,0;g0,1,1,0;"), 6);
        d.faulty("", 0, 1);
        d.faulty("E0,0;g0,1,1,0;", 0, 1);
        d.faulty("g0,1,1,0;", 0, 1);
        d.faulty("e,0;g0,1,1,0;", 1, 1);
        d.faulty("e100,0;g0,1,1,0;", 1, 1);
        d.faulty("e0000,0;g0,1,1,0;", 1, 1);
        d.faulty("e10,0;g0,1,1,0;", 1, 2);
        d.faulty("e0;g0,1,1,0;", 2, 1);
        d.faulty("e0,21;g0,1,1,0;", 3, 2);
        d.faulty("e0,0,g0,1,1,0;", 4, 1);
        d.faulty("e0,0;", 5, 1);
        d.faulty("e0,0; g0,1,1,0;", 5, 1);
        d.faulty("e0,0;e0,0;", 5, 1);
        d.faulty("e0,0;g61,1,1,0;", 6, 2);
        d.faulty("e0,0;gg0,1,1,0;", 6, 1);
        d.faulty("e0,0;g0,0,1,0;", 8, 2);
        d.faulty("e0,0;g0,10,1,0;", 8, 2);
        d.faulty("e0,0;g0,1,0,0;", 10, 2);
        d.faulty("e0,0;g0,1,10,0;", 10, 2);
        d.faulty("e0,0;g0,1,1,2;", 12, 2);
        d.faulty("e0,0;g0,1,1,0", 13, 1);
        d.faulty("e0,0;g0,1,1,0,", 13, 1);
        d.faulty("e0,0;g0,1,1,0;7", 14, 1);
        d.faulty("e0,0;g0,1,1,0;g", 15, 1);
        d.faulty("e0,0;g0,1,1,0;g123", 15, 1);
    }

    private static void promise7And8FirstFaultWins() {
        d.faulty("e10,21;z", 1, 2);
        d.faulty("e0,21;z", 3, 2);
        String six = "e0,0;g0,1,1,0;f0,1,1,0;s0,1,1,0;p0,1,1,0;w0,1,1,0;g0,1,1,0;";
        d.faulty(six + "w", six.length(), 3);
        d.faulty(six + "p999", six.length(), 3);
        d.faulty(six + "z", six.length(), 1);
        d.faulty(six + "e", six.length(), 1);
        d.faulty(six + ";", six.length(), 1);
        d.faulty("e0,0;g61,1,1,0;f0,1,1,0;s0,1,1,0;p0,1,1,0;w0,1,1,0;g0,1,1,0;g", 6, 2);
    }

    private static void promise7NewLandStandsInPlace() {
        EscrowLand x = Due.told(FIVE);
        x.days(3);
        x.putBack(0);
        d.due("a fault", Due.read(x, "e0,0;"), FAULTY - 5);
        d.due("all stays: things", x.count(1), 5);
        d.due("all stays: day", x.count(2), 3);
        d.due("all stays: acts", x.count(4), 4);
        d.due("all stays: is", x.thing(1, 0), 11);
        d.due("all stays: may", x.holds(1), 2);
        d.due("another land", Due.read(x, "e1,1;g7,1,1,1;"), 1);
        d.due("things", x.count(1), 1);
        d.due("day", x.count(2), 0);
        d.due("cost", x.count(3), 0);
        d.due("acts", x.count(4), 0);
        d.due("undo()", x.undo(), STATE);
        d.due("is", x.thing(0, 0), 7);
        d.due("the second is gone", x.thing(1, 0), BAD);
    }

    private static void promise8Fault() {
        EscrowLand x = new EscrowLand();
        Due.read(x, "e0,0;g0,1,1,0;");
        d.due("none yet", x.fault(), 0);
        Due.read(x, "e10,0;g0,1,1,0;");
        d.due("2", x.fault(), 2);
        Due.read(x, "e0,0;g0,1,1,0;");
        d.due("the latest one stays", x.fault(), 2);
        Due.read(x, "e");
        d.due("1", x.fault(), 1);
    }

    private static void promise9Undo() {
        EscrowLand x = Due.told(FIVE);
        x.days(7);
        x.putBack(1);
        x.send(3, 4);
        x.allow(9);
        d.due("acts", x.count(4), 10);
        d.due("undo allow", x.undo(), 9);
        d.due("may", x.holds(1), 2);
        d.due("cost of both", x.count(3), 43 + 3);
        d.due("undo send", x.undo(), 8);
        d.due("p", x.thing(3, 0), 43);
        d.due("w", x.thing(4, 0), 47);
        d.due("cost of one", x.count(3), 43);
        d.due("undo putBack", x.undo(), 7);
        d.due("f", x.thing(1, 0), 0);
        d.due("cost", x.count(3), 0);
        d.due("undo a day", x.undo(), 6);
        d.due("f, a day back, was not 3 more", x.thing(1, 0), 2);
        d.due("all off, a day back", x.holds(3), 34);
        d.due("day", x.count(2), 6);
        for (int left = 5; left >= 0; left--) {
            d.due("undo a day", x.undo(), left);
        }
        d.due("all off at first", x.holds(3), 0);
        d.due("none", x.undo(), STATE);
        x.days(24);
        x.days(24);
        d.due("24 at most", x.count(4), 24);
        for (int left = 23; left >= 0; left--) {
            d.due("undo of 24", x.undo(), left);
        }
        d.due("the oldest are forgotten", x.undo(), STATE);
        d.due("day 24", x.count(2), 24);
        x.days(1);
        d.due("a new act behind undone ones", x.undo(), 0);
        d.due("day 24 again", x.count(2), 24);
    }

    private static void promise10Days() {
        d.due("no land, ahead of BAD", new EscrowLand().days(0), STATE);
        int[] off = {10, 11, 21, 23, 33, 34, 45, 42};
        EscrowLand x = Due.told(FIVE);
        for (int day = 0; day < off.length; day++) {
            d.due("days(1)", x.days(1), off[day]);
        }
        EscrowLand y = Due.told(FIVE);
        d.due("days(8)", y.days(8), 42);
        d.due("an act each", y.count(4), 8);
        d.due("day", y.count(2), 8);
        int[] is = {26, 0, 30, 44, 48};
        for (int t = 0; t < is.length; t++) {
            d.due("is " + t, y.thing(t, 0), is[t]);
        }
        d.due("days(0)", y.days(0), BAD);
        d.due("days(25)", y.days(25), BAD);
        d.due("nothing changed", y.count(2), 8);
        EscrowLand z = Due.told("e0,0;g60,9,1,0;w1,7,1,0;");
        z.days(7);
        d.due("99 at most", z.thing(0, 0), 99);
        d.due("0 at least", z.thing(1, 0), 0);
    }

    private static void promise10DayIsAtMost999() {
        EscrowLand x = Due.told("e0,0;s0,1,1,0;");
        for (int i = 0; i < 41; i++) {
            x.days(24);
        }
        d.due("day 984", x.count(2), 984);
        d.due("beyond 999", x.days(16), FULL);
        d.due("BAD ahead of FULL", x.days(25), BAD);
        d.due("day 984 still", x.count(2), 984);
        d.due("to 999: 15 days, the last one of which is even", x.days(15), 1);
        d.due("day 999", x.count(2), 999);
        d.due("beyond it", x.days(1), FULL);
        d.due("foretold beyond it", x.ahead(0, 2), 1);
    }

    private static void promise11PutBack() {
        EscrowLand x = Due.told(FIVE);
        d.due("not off", x.putBack(0), STATE);
        x.days(3);
        d.due("g: 4 times 6, and 3", x.putBack(0), 27);
        d.due("g is what it was", x.thing(0, 0), 10);
        d.due("again", x.putBack(0), STATE);
        d.due("f: 2 times 9, and 3", x.putBack(1), 21);
        d.due("s: 5, and 3", x.putBack(2), 8);
        d.due("cost", x.count(3), 56);
        d.due("acts", x.count(4), 6);
        d.due("a person", x.putBack(3), STATE);
        d.due("a widow", x.putBack(4), STATE);
        d.due("no such", x.putBack(5), BAD);
        d.due("no such", x.putBack(-1), BAD);
    }

    private static void promise12Send() {
        EscrowLand x = Due.told(FIVE);
        x.days(8);
        d.due("send(3, 4): 48 for 40, 44 for 50", x.send(3, 4), 14);
        d.due("p is", x.thing(3, 0), 48);
        d.due("p was", x.thing(3, 1), 40);
        d.due("w is", x.thing(4, 0), 44);
        d.due("cost", x.count(3), 3);
        d.due("acts", x.count(4), 9);
        d.due("and back", x.send(4, 3), 6);
        d.due("one is no person", x.send(0, 3), STATE);
        d.due("the other is none", x.send(3, 2), STATE);
        d.due("alike", x.send(3, 3), BAD);
        d.due("alike, ahead of STATE", x.send(0, 0), BAD);
        d.due("no such", x.send(5, 3), BAD);
        d.due("no such other", x.send(3, -1), BAD);
        d.due("acts", x.count(4), 10);
    }

    private static void promise13Allow() {
        d.due("no land, ahead of BAD", new EscrowLand().allow(10), STATE);
        EscrowLand x = Due.told(FIVE);
        d.due("allow(9)", x.allow(9), 2);
        d.due("allow(0)", x.allow(0), 9);
        d.due("allow(10)", x.allow(10), BAD);
        d.due("allow(-1)", x.allow(-1), BAD);
        d.due("may", x.holds(1), 0);
        d.due("acts", x.count(4), 2);
        d.due("the same once more", x.allow(0), 0);
        d.due("it is an act, as each call is", x.count(4), 3);
    }

    private static void promise14Thing() {
        EscrowLand x = Due.told(FIVE);
        x.days(1);
        int[][] want = {
            {12, 10, 2, 4, 0, 2, 1, 11},
            {17, 20, 3, 2, 1, 3, 0, 9},
            {35, 30, 5, 1, 0, 5, 0, 8},
            {40, 40, 2, 1, 1, 0, 1, NONE},
            {50, 50, 4, 1, 0, 0, 1, NONE},
        };
        for (int t = 0; t < want.length; t++) {
            for (int what = 0; what < 8; what++) {
                d.due("thing(" + t + ", " + what + ")", x.thing(t, what), want[t][what]);
            }
        }
        d.due("not off costs FEE", Due.told(FIVE).thing(0, 7), 3);
        d.due("what 8", x.thing(0, 8), BAD);
        d.due("what -1", x.thing(0, -1), BAD);
        d.due("thing 5", x.thing(5, 0), BAD);
        d.due("thing -1", x.thing(-1, 0), BAD);
    }

    private static void promise15Holds() {
        d.due("no land, ahead of BAD", new EscrowLand().holds(5), STATE);
        EscrowLand x = Due.told(FIVE);
        d.due("all alike", x.holds(4), 31);
        x.days(4);
        x.putBack(2);
        x.putBack(0);
        d.due("cost: 4 times 8, and 3", x.holds(0), 35);
        d.due("may", x.holds(1), 2);
        d.due("fee", x.holds(2), 3);
        d.due("all off", x.holds(3), 15);
        d.due("alike", x.holds(4), 1 + 4 + 8 + 16);
        d.due("what 5", x.holds(5), BAD);
        d.due("what -1", x.holds(-1), BAD);
    }

    private static void promise16And17Ahead() {
        d.due("no land", new EscrowLand().ahead(0, 0), BAD);
        d.due("no land, ahead of BAD", new EscrowLand().offAhead(61), STATE);
        EscrowLand x = Due.told(FIVE);
        d.due("w, 0 on", x.ahead(4, 0), 50);
        d.due("w, 7 on", x.ahead(4, 7), 47);
        d.due("w, 8 on", x.ahead(4, 8), 48);
        d.due("g, 60 on", x.ahead(0, 60), 99);
        d.due("all off, 0 on", x.offAhead(0), 0);
        d.due("all off, 7 on", x.offAhead(7), 45);
        x.days(3);
        d.due("s, from an odd day", x.ahead(2, 1), 30);
        d.due("all off, 4 on", x.offAhead(4), 45);
        d.due("nothing changed", x.count(2), 3);
        d.due("ahead(0, 61)", x.ahead(0, 61), BAD);
        d.due("ahead(0, -1)", x.ahead(0, -1), BAD);
        d.due("ahead(5, 0)", x.ahead(5, 0), BAD);
        d.due("offAhead(61)", x.offAhead(61), BAD);
        d.due("offAhead(-1)", x.offAhead(-1), BAD);
    }

    private static void promise18Lost() {
        d.due("no land, ahead of BAD", new EscrowLand().lost(2), STATE);
        EscrowLand x = Due.told(FIVE);
        d.due("day", x.lost(0), 6);
        d.due("who", x.lost(1), 3);
        x.days(7);
        d.due("day, all lost now", x.lost(0), 1);
        d.due("who, the widow is alike again behind it", x.lost(1), 3);
        d.due("what 2", x.lost(2), BAD);
        d.due("what -1", x.lost(-1), BAD);
        EscrowLand z = Due.told("e6,0;g0,9,1,0;p0,9,1,0;");
        d.due("60 days on at most: 6 times 1", z.lost(0), NONE);
        z.days(3);
        d.due("the 63rd day", z.lost(0), 60);
        d.due("who then", z.lost(1), 1);
        EscrowLand both = Due.told("e0,0;w5,1,1,0;p5,1,1,0;");
        d.due("of two the first", both.lost(1), 0);
        d.due("now does not count", both.lost(0), 1);
    }

    private static void promise19Cheapest() {
        EscrowLand x = Due.told(FIVE);
        d.due("1 day: none", x.cheapest(0, 1, 0), 0);
        d.due("1 day: bits", x.cheapest(0, 1, 1), 0);
        d.due("2 days: early is cheaper", x.cheapest(0, 2, 0), 11);
        d.due("2 days: bits", x.cheapest(0, 2, 1), 1);
        d.due("3 days: once is cheaper", x.cheapest(0, 3, 0), 19);
        d.due("3 days: bits", x.cheapest(0, 3, 1), 2);
        d.due("f, each day: 24 times 9", x.cheapest(1, 24, 0), 216);
        d.due("f, bits", x.cheapest(1, 24, 1), (1 << 24) - 1);
        x.days(3);
        d.due("from what it is now: 4 times 8, and 3", x.cheapest(0, 1, 0), 35);
        d.due("bits", x.cheapest(0, 1, 1), 1);
        d.due("s comes back by itself", x.cheapest(2, 1, 0), 0);
        d.due("a person", x.cheapest(3, 1, 0), STATE);
        d.due("a widow", x.cheapest(4, 1, 0), STATE);
        d.due("BAD ahead of STATE", x.cheapest(4, 25, 0), BAD);
        d.due("n 0", x.cheapest(0, 0, 0), BAD);
        d.due("n 25", x.cheapest(0, 25, 0), BAD);
        d.due("what 2", x.cheapest(0, 1, 2), BAD);
        d.due("what -1", x.cheapest(0, 1, -1), BAD);
        d.due("thing 5", x.cheapest(5, 1, 0), BAD);
        d.due("nothing changed", x.count(3), 0);
    }

    private static void promise19OfSeveralTheLeastBits() {
        EscrowLand x = Due.told("e1,0;g10,1,1,0;s10,3,1,0;f0,1,1,0;");
        d.due("once by 2, or twice by 1", x.cheapest(0, 3, 0), 2);
        d.due("bits", x.cheapest(0, 3, 1), 2);
        d.due("put back for nothing is not done", x.cheapest(2, 24, 1), 0);
        EscrowLand free = Due.told("e9,0;s10,9,1,0;");
        d.due("no need", free.cheapest(0, 24, 0), 0);
        d.due("no need, no bits", free.cheapest(0, 24, 1), 0);
    }

    private static void promise20Match() {
        d.due("no land, ahead of BAD", new EscrowLand().match(-2), STATE);
        EscrowLand none = Due.told("e0,0;g10,1,1,0;f9,1,1,0;");
        none.days(5);
        d.due("no people", none.match(-1), 0);
        d.due("itself", none.match(1), 1);
        EscrowLand x = Due.told("e0,0;p10,9,1,0;g5,1,1,0;p20,9,1,0;w30,9,1,0;");
        x.send(0, 2);
        x.send(2, 3);
        // Now 20, 30, 10 stand in the places of 10, 20, 30.
        x.days(4);
        d.due("all their off together", x.match(-1), 0);
        d.due("whose place: 0", x.match(0), 2);
        d.due("whose place: 1, no person", x.match(1), 1);
        d.due("whose place: 2", x.match(2), 3);
        d.due("whose place: 3", x.match(3), 0);
        d.due("nothing changed", x.thing(0, 0), 20);
        d.due("match(4)", x.match(4), BAD);
        d.due("match(-2)", x.match(-2), BAD);
    }

    private static void promise20OfSeveralTheFirst() {
        EscrowLand x = Due.told("e0,0;p10,1,1,0;p20,1,1,0;");
        x.days(15);
        d.due("25 and 35: either way 30", x.match(-1), 30);
        d.due("the first way", x.match(0), 0);
        x.send(0, 1);
        d.due("35 and 25: either way 30", x.match(-1), 30);
        d.due("the first way, too", x.match(0), 0);
        d.due("the first way, too", x.match(1), 1);
    }

    private static void promise21Gain() {
        d.due("no land, ahead of BAD", new EscrowLand().gain(2), STATE);
        EscrowLand x = Due.told(FIVE);
        d.due("nobody gains", x.gain(0), 10000);
        x.days(8);
        d.due("side 0: 16, 0, -2", x.gain(0), 10014);
        d.due("side 1: -20, 4", x.gain(1), 9984);
        d.due("side 2", x.gain(2), BAD);
        d.due("side -1", x.gain(-1), BAD);
    }

    private static void promise22Seldom() {
        EscrowLand x = Due.told(FIVE);
        d.due("g by 2, 5", x.seldom(0, 5), 2);
        d.due("g by 2, 1", x.seldom(0, 1), NONE);
        d.due("g by 2, 60", x.seldom(0, 60), 30);
        d.due("s by 5, 5", x.seldom(2, 5), 30);
        d.due("s by 5, 4", x.seldom(2, 4), NONE);
        d.due("p each 2nd day, 5", x.seldom(3, 5), 10);
        x.days(4);
        d.due("put back now, as it was off", x.seldom(0, 2), 1);
        d.due("m 0", x.seldom(0, 0), BAD);
        d.due("m 61", x.seldom(0, 61), BAD);
        d.due("thing 5", x.seldom(5, 1), BAD);
        d.due("nothing changed", x.thing(0, 0), 18);
    }

    private static void promise23Round() {
        d.due("no land", new EscrowLand().round(), STATE);
        d.due("seasons", Due.told("e0,0;s30,5,1,0;").round(), 14);
        d.due("what grows", Due.told("e0,0;s30,5,1,0;g1,1,1,0;").round(), NONE);
        d.due("what grows is the first", Due.told("e0,0;g1,1,1,0;s30,5,1,0;").round(), NONE);
        d.due("a widow by 7 at 0", Due.told("e0,0;w0,7,1,0;").round(), 14);
        d.due("a widow by 3 at 0: 14 and 3", Due.told("e0,0;w0,3,1,0;").round(), 42);
        d.due("a widow by 9 at 0: 126 is too far", Due.told("e0,0;w0,9,1,0;").round(), NONE);
        EscrowLand x = Due.told("e0,0;g60,9,1,0;f9,9,1,0;");
        x.days(5);
        d.due("as it is now, not as it was", x.round(), 14);
    }

    private static void promise24Stealth() {
        d.due("no land, ahead of BAD", new EscrowLand().stealth(8, 0, 0), STATE);
        EscrowLand x = Due.told(FIVE);
        d.due("missing", x.stealth(0, 0, 1), NULL);
        Due.fill(x, 0, 2, 10, 11, 12, 15);
        d.due("as it is, or w", x.stealth(0, 0, 2), 64 + 16);
        d.due("as it is, or p, or w", x.stealth(0, 0, 1), 64 + 16 + 8);
        d.due("g", x.stealth(0, 2, 2), 1);
        Due.fill(x, 0, 0, 13, 17);
        d.due("f", x.stealth(0, 0, 2), 2);
        Due.fill(x, 0, 1, 15, 11, 10, 12, 9);
        d.due("s", x.stealth(0, 0, 2), 4);
        d.due("p", x.stealth(0, 2, 2), 8);
        d.due("none", x.stealth(0, 4, 1), 0);
        d.due("beyond the end", x.stealth(0, 4, 2), PLACE);
        d.due("place -1", x.stealth(0, -1, 1), PLACE);
        d.due("place most", x.stealth(0, Integer.MAX_VALUE, 12), PLACE);
        d.due("n 0", x.stealth(0, 0, 0), BAD);
        d.due("n 13", x.stealth(0, 0, 13), BAD);
        d.due("row 8", x.stealth(8, 0, 1), BAD);
        x.row(1, 2, 12);
        d.due("n 12", x.stealth(1, 0, 12), 0);
        d.due("nothing changed", x.count(2), 0);
    }

    private static void promise25Who() {
        d.due("no land", new EscrowLand().who(0, 0, 0, 1), BAD);
        EscrowLand x = Due.told(FIVE);
        d.due("missing", x.who(3, 0, 0, 1), NULL);
        Due.fill(x, 0, 0, 42, 44, 42, 40, 38, 36);
        d.due("g or s", x.who(3, 0, 0, 1), 2 + 8);
        d.due("g", x.who(3, 0, 0, 2), 2);
        d.due("s", x.who(3, 0, 2, 2), 8);
        d.due("f", x.who(3, 0, 4, 2), 4);
        Due.fill(x, 0, 0, 40, 41, 41, 42, 42, 43, 43);
        d.due("p or w", x.who(3, 0, 0, 6), 16 + 32);
        d.due("p", x.who(3, 0, 0, 7), 16);
        x.set(0, 6, 41);
        d.due("w", x.who(3, 0, 0, 7), 32);
        d.due("none", x.who(3, 0, 6, 1), 0);
        d.due("beyond the end", x.who(3, 0, 6, 2), PLACE);
        d.due("place -1", x.who(3, 0, -1, 1), PLACE);
        d.due("n 0", x.who(3, 0, 0, 0), BAD);
        d.due("n 13", x.who(3, 0, 0, 13), BAD);
        d.due("row -1", x.who(3, -1, 0, 1), BAD);
        d.due("thing 5", x.who(5, 0, 0, 1), BAD);
    }

    private static void promise26LeastMay() {
        d.due("no land, ahead of BAD", new EscrowLand().leastMay(61), STATE);
        EscrowLand x = Due.told(FIVE);
        d.due("now", x.leastMay(0), 0);
        d.due("3 days", x.leastMay(3), 9);
        d.due("7 days", x.leastMay(7), 20);
        d.due("n 61", x.leastMay(61), BAD);
        d.due("n -1", x.leastMay(-1), BAD);
        EscrowLand s = Due.told("e0,0;s30,5,1,0;");
        s.days(1);
        d.due("now counts, too", s.leastMay(0), 5);
        d.due("and what comes between", s.leastMay(1), 5);
    }

    private static void promise27Odds() {
        d.due("no land", new EscrowLand().odds(0, 0, 0, 0), BAD);
        EscrowLand x = Due.told(FIVE);
        fraction(x, 0, 5, 2, 3, 4);
        fraction(x, 0, 3, 2, 91, 100);
        fraction(x, 0, 3, 9, 98001617, 500000000);
        fraction(x, 0, 0, 9, 1, 1);
        fraction(x, 0, 10, 9, 0, 1);
        fraction(x, 0, 7, 0, 1, 1);
        fraction(x, 1, 7, 1, 3, 10);
        fraction(Due.told("e2,0;f2,3,1,0;"), 0, 5, 9, 1, 1);
        x.days(2);
        fraction(x, 0, 5, 0, 0, 1);
        d.due("seasons", x.odds(2, 5, 1, 0), STATE);
        d.due("a person", x.odds(3, 5, 1, 0), STATE);
        d.due("a widow", x.odds(4, 5, 1, 0), STATE);
        d.due("p 11", x.odds(0, 11, 1, 0), BAD);
        d.due("p -1", x.odds(0, -1, 1, 0), BAD);
        d.due("n 10", x.odds(0, 5, 10, 0), BAD);
        d.due("n -1", x.odds(0, 5, -1, 0), BAD);
        d.due("what 2, ahead of STATE", x.odds(2, 5, 1, 2), BAD);
        d.due("what -1", x.odds(0, 5, 1, -1), BAD);
        d.due("thing 5", x.odds(5, 5, 1, 0), BAD);
    }

    private static void fraction(EscrowLand x, int thing, int p, int n, long above, long below) {
        String call = "odds(" + thing + ", " + p + ", " + n + ", ";
        d.due(call + "0)", x.odds(thing, p, n, 0), above);
        d.due(call + "1)", x.odds(thing, p, n, 1), below);
    }

    private static void promise28Store() {
        d.due("no land, ahead of BAD", new EscrowLand().store(0), STATE);
        EscrowLand x = Due.told(FIVE);
        d.due("5 days: 2 times 3, each day", x.store(5), 30);
        x.allow(3);
        d.due("each second day: 2 times 6", x.store(5), 24);
        x.days(3);
        d.due("from what it is: 2 times 12 first", x.store(1), 24);
        d.due("n 0", x.store(0), BAD);
        d.due("n 61", x.store(61), BAD);
        d.due("nothing changed", x.thing(1, 0), 11);
        d.due("the first thing falls", Due.told("e0,9;f20,1,2,0;").store(3), 6);
        d.due("nothing falls", Due.told("e0,9;g0,9,9,0;s9,9,9,0;p9,1,9,1;").store(60), 0);
    }

    private static void promise29Drawn() {
        d.due("no land, ahead of BAD", new EscrowLand().drawn(61, 1, 0), STATE);
        // From 1 the draws are 16807, 282475249, 1622650073, 984943658, 1144108930: odd, odd, odd, even, even.
        EscrowLand x = Due.told("e0,1;g10,1,2,0;p5,9,1,0;");
        d.due("0 days: cost", x.drawn(0, 1, 0), 0);
        d.due("0 days: off", x.drawn(0, 1, 1), 0);
        d.due("3 days: cost", x.drawn(3, 1, 0), 0);
        d.due("3 days: off", x.drawn(3, 1, 1), 3);
        d.due("4 days: cost", x.drawn(4, 1, 0), 7);
        d.due("4 days: off", x.drawn(4, 1, 1), 1);
        d.due("5 days: cost", x.drawn(5, 1, 0), 10);
        d.due("n -1", x.drawn(-1, 1, 0), BAD);
        d.due("n 61", x.drawn(61, 1, 0), BAD);
        d.due("seed 0", x.drawn(1, 0, 0), BAD);
        d.due("seed 1000000", x.drawn(1, 1000000, 0), BAD);
        d.due("seed 999999", x.drawn(0, 999999, 0), 0);
        d.due("what 2", x.drawn(1, 1, 2), BAD);
        d.due("what -1", x.drawn(1, 1, -1), BAD);
        d.due("not off: nothing to pay", Due.told("e0,9;g10,1,2,0;").drawn(1, 1, 0), 0);
        EscrowLand p = Due.told("e0,1;p5,1,1,0;");
        d.due("no person is put back: cost", p.drawn(3, 1, 0), 0);
        d.due("no person is put back: off", p.drawn(3, 1, 1), 3);
        d.due("nothing changed", x.count(2), 0);
        x.days(2);
        d.due("off now", x.drawn(0, 5, 1), 2);
    }

    private static void promise30And31Images() {
        d.due("image(2), ahead of STATE", new EscrowLand().image(2), BAD);
        d.due("image(-1)", new EscrowLand().image(-1), BAD);
        d.due("image(0), no land", new EscrowLand().image(0), STATE);
        d.due("restore(2)", new EscrowLand().restore(2), BAD);
        d.due("restore(-1)", new EscrowLand().restore(-1), BAD);
        EscrowLand x = Due.told(FIVE);
        x.days(4);
        x.putBack(0);
        x.allow(7);
        d.due("image(1)", x.image(1), 1);
        d.due("image(0) was not kept", x.restore(0), STATE);
        d.due("acts stay", x.count(4), 6);
        x.undo();
        x.days(5);
        Due.read(x, "e0,0;g1,1,1,1;");
        d.due("image(0)", x.image(0), 1);
        x.days(3);
        d.due("restore(1)", x.restore(1), 1);
        d.due("things", x.count(1), 5);
        d.due("day", x.count(2), 4);
        d.due("cost", x.count(3), 35);
        d.due("no act", x.count(4), 0);
        d.due("undo()", x.undo(), STATE);
        d.due("may", x.holds(1), 7);
        d.due("fee", x.holds(2), 3);
        d.due("is", x.thing(1, 0), 8);
        d.due("side", x.thing(1, 4), 1);
        d.due("kind", x.kind(4), 5);
        x.days(1);
        d.due("restore(1) again", x.restore(1), 1);
        d.due("the image stayed as it was", x.thing(1, 0), 8);
        d.due("restore(0)", x.restore(0), 1);
        d.due("one thing", x.count(1), 1);
        d.due("is", x.thing(0, 0), 1);
    }

    private static void promise32Kind() {
        EscrowLand x = Due.told(FIVE);
        for (int t = 0; t < 5; t++) {
            d.due("kind(" + t + ")", x.kind(t), t + 1);
        }
        d.due("kind(5)", x.kind(5), BAD);
        d.due("kind(-1)", x.kind(-1), BAD);
    }

    private static void promise33As() {
        EscrowLand x = Due.told(FIVE);
        String[] is = {"110000", "111000", "110100", "100010", "100011"};
        for (int t = 0; t < 5; t++) {
            for (int kind = 0; kind <= 5; kind++) {
                d.due("as(" + t + ", " + kind + ")", x.as(t, kind), is[t].charAt(kind) == '1' ? t : KIND);
            }
        }
        d.due("as(0, 6)", x.as(0, 6), BAD);
        d.due("as(0, -1)", x.as(0, -1), BAD);
        d.due("as(5, 0)", x.as(5, 0), BAD);
    }

    private static void promise34And35AskAndTrace() {
        EscrowLand x = Due.told(FIVE);
        d.asked(x, 0, 0, 12, 11, 10, 21, 20);
        d.asked(x, 0, 1, 10, 21, 20);
        d.asked(x, 1, 0, -45, 12, 11, 10, 24, 21, 20);
        d.asked(x, 1, 1, 42, 24, 21, 20);
        d.asked(x, 2, 0, -963, 11, 10, 22, 21, 20);
        d.asked(x, 2, 1, -968, 22, 21, 20);
        d.asked(x, 3, 0, -98, 13, 10);
        d.asked(x, 3, 1, 101, 23, 20, 13, 10);
        d.asked(x, 4, 0, -192, 14, 13, 10);
        d.asked(x, 4, 1, 196, 23, 20, 14, 13, 10);
        d.due("ask(0, 2)", x.ask(0, 2), BAD);
        d.due("ask(0, -1)", x.ask(0, -1), BAD);
        d.due("ask(5, 0)", x.ask(5, 0), BAD);
        d.due("what is refused leaves the trace", x.trace(0), 23);
        d.due("trace(-1)", x.trace(-1), NONE);
        x.days(1);
        d.asked(x, 0, 1, 12, 21, 20);
    }

    private static void promise36Count() {
        EscrowLand x = Due.told(FIVE);
        x.row(0, 0, 1);
        x.row(5, 0, 1);
        x.days(3);
        x.putBack(0);
        x.feed(1);
        int[] want = {2, 5, 3, 27, 4, 1};
        for (int what = 0; what < want.length; what++) {
            d.due("count(" + what + ")", x.count(what), want[what]);
        }
        d.due("count(6)", x.count(6), BAD);
        d.due("count(-1)", x.count(-1), BAD);
    }

    private static void promise37Status() {
        EscrowLand x = new EscrowLand();
        x.set(0, 0, 0);
        d.due("NULL", x.status(), 1);
        x.set(8, 0, 0);
        d.due("BAD changes nothing", x.status(), 1);
        x.stealth(0, 0, 1);
        d.due("STATE changes nothing", x.status(), 1);
        x.row(0, 0, 3);
        d.due("none", x.status(), 0);
        x.set(0, 3, 0);
        d.due("PLACE", x.status(), 2);
        x.row(1, 1, -1);
        d.due("SIZE", x.status(), 4);
        x.row(1, 1, 1);
        x.copy(0, 0, 1, 0, 1);
        d.due("STORE", x.status(), 5);
        Due.read(x, FIVE);
        x.days(1);
        d.due("calls without a row change nothing", x.status(), 5);
        x.as(0, 0);
        d.due("as(), none", x.status(), 0);
        x.as(0, 2);
        d.due("as(), KIND", x.status(), 3);
        x.as(0, 6);
        d.due("as(), BAD", x.status(), 3);
        x.stealth(0, 0, 3);
        d.due("stealth, none", x.status(), 0);
        x.who(0, 7, 0, 1);
        d.due("who, NULL", x.status(), 1);
        x.who(0, 0, 0, 3);
        d.due("who, none", x.status(), 0);
        x.stealth(0, 1, 3);
        d.due("stealth, PLACE", x.status(), 2);
        x.copy(0, 0, 0, 0, 0);
        d.due("copy, none", x.status(), 0);
        x.drop(6);
        d.due("drop, NULL", x.status(), 1);
        x.drop(0);
        d.due("drop, none", x.status(), 0);
    }
}
