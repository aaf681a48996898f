/** The edges of TEXTS and FAULTS, promises 6 to 8: a test for each sentence that names one. */
public final class EdgesOfTextsTest implements Answers {
    private static final String LAW = "e0,0;";
    private static final String THING = "g0,1,1,0;";
    private static final String SIX = LAW + THING + "f0,1,1,0;" + "s0,1,1,0;" + "p0,1,1,0;" + "w0,1,1,0;" + THING;
    /** 85 bytes: no text without a fault has more. */
    private static final String LONGEST = "e09,20;" + "g60,09,09,01;".repeat(6);
    private static final String SORTS = "gfspw";

    private static final Due d = new Due();

    public static void main(String[] args) {
        bytesGoFrom0To255();
        theTapeHasAtMost100Bytes();
        theTapeIsEmptyOnceItIsRead();
        aFullTapeIsRead();
        anEmptyTapeHasAFaultAtItsEnd();
        aLandBeginsWithE();
        theSortIsOneOfFive();
        aThingMoreBeginsLikeTheFirst();
        aNumberBeginsWithAFigure();
        signsStandInTheirPlaces();
        numbersAreAsTold();
        numbersHaveTwoFiguresAtMost();
        threeFiguresCannotStandAnywhere();
        theEndIsHowManyBytesThereAre();
        oneThingAtLeast();
        sixThingsAtMost();
        theLongestText();
        theFirstTokenWithAFault();
        ofOneTokenTheLeast();
        withAFaultAllStays();
        aLandStandsInPlaceOfTheOneBefore();
        aSmallerLandLeavesNothingOfTheOneBefore();
        eachThingIsWhatItWas();
        faultTellsTheLatest();
        d.end();
    }

    private static void reads(String text, int things) {
        EscrowLand x = new EscrowLand();
        d.due("land() of " + text, Due.read(x, text), things);
        d.due("fault() of " + text, x.fault(), 0);
        d.due("things of " + text, x.count(1), things);
        d.due("the tape of " + text, x.count(5), 0);
    }

    private static void bytesGoFrom0To255() {
        EscrowLand x = new EscrowLand();
        for (int letter : new int[] {LEAST, -256, -1, 256, 257, 256 + 'e', MOST}) {
            d.due("feed " + letter, x.feed(letter), BAD);
        }
        d.due("nothing came", x.count(5), 0);
        d.due("feed 0", x.feed(0), 1);
        d.due("feed 255", x.feed(255), 2);
    }

    private static void theTapeHasAtMost100Bytes() {
        EscrowLand x = new EscrowLand();
        for (int n = 1; n <= 100; n++) {
            d.due("byte " + n, x.feed('e'), n);
        }
        d.due("one more", x.feed('e'), FULL);
        d.due("one more of 0", x.feed(0), FULL);
        d.due("BAD ahead of FULL: 256", x.feed(256), BAD);
        d.due("BAD ahead of FULL: -1", x.feed(-1), BAD);
        d.due("100 still", x.count(5), 100);
        d.due("status is not told by it", x.status(), 0);
    }

    private static void theTapeIsEmptyOnceItIsRead() {
        EscrowLand x = new EscrowLand();
        d.due("read", Due.read(x, LAW + THING), 1);
        d.due("empty", x.count(5), 0);
        d.due("the first byte again", x.feed('e'), 1);
        d.due("a fault", x.land(), FAULTY - 1);
        d.due("empty, too", x.count(5), 0);
        d.due("the first byte once more", x.feed('e'), 1);
        EscrowLand full = new EscrowLand();
        for (int n = 0; n < 100; n++) {
            full.feed('z');
        }
        full.land();
        d.due("a full tape is empty then", full.feed('e'), 1);
        d.due("and what it had is gone", Due.read(full, "0,0;" + THING), 1);
    }

    private static void aFullTapeIsRead() {
        String text = SIX + "p0,1,1,0;".repeat(5);
        d.faulty(text.substring(0, 100), SIX.length(), 3);
        d.faulty("e" + "0".repeat(99), 1, 1);
        d.faulty("e0,0;g" + "9".repeat(94), 6, 1);
        d.faulty(LONGEST + ";".repeat(15), 85, 1);
    }

    private static void anEmptyTapeHasAFaultAtItsEnd() {
        d.faulty("", 0, 1);
        EscrowLand x = Due.told(LAW + THING);
        d.due("read once more", x.land(), FAULTY);
        d.due("fault", x.fault(), 1);
        d.due("the land stays", x.count(1), 1);
    }

    private static void aLandBeginsWithE() {
        for (int letter = 0; letter <= 255; letter++) {
            if (letter != 'e') {
                d.faulty((char) letter + "0,0;" + THING, 0, 1);
            }
        }
        reads(LAW + THING, 1);
    }

    private static void theSortIsOneOfFive() {
        for (int letter = 0; letter <= 255; letter++) {
            String text = LAW + (char) letter + "0,1,1,0;";
            if (SORTS.indexOf(letter) >= 0) {
                reads(text, 1);
            } else {
                d.faulty(text, 5, 1);
            }
        }
    }

    private static void aThingMoreBeginsLikeTheFirst() {
        for (int letter = 0; letter <= 255; letter++) {
            String text = LAW + THING + (char) letter + "0,1,1,0;";
            if (SORTS.indexOf(letter) >= 0) {
                reads(text, 2);
            } else {
                d.faulty(text, 14, 1);
            }
        }
    }

    private static void aNumberBeginsWithAFigure() {
        // Behind each of these a number is to come, and 1 is as told.
        for (String ahead : new String[] {"e", "e0,", LAW + "g", LAW + "g0,", LAW + "g0,1,", LAW + "g0,1,1,"}) {
            for (int letter = 0; letter <= 255; letter++) {
                if (letter < '0' || letter > '9') {
                    d.faulty(ahead + (char) letter, ahead.length(), 1);
                }
            }
            d.faulty(ahead + '1', ahead.length() + 1, 1);
        }
    }

    private static void signsStandInTheirPlaces() {
        signStandsBehind("e1", ',');
        signStandsBehind("e1,1", ';');
        signStandsBehind(LAW + "w1", ',');
        signStandsBehind(LAW + "w1,1", ',');
        signStandsBehind(LAW + "w1,1,1", ',');
        signStandsBehind(LAW + "w1,1,1,1", ';');
    }

    /** What follows a sign is missing here: its fault is the end's, but behind a whole thing. */
    private static void signStandsBehind(String ahead, char sign) {
        for (int letter = 0; letter <= 255; letter++) {
            boolean figure = letter >= '0' && letter <= '9';
            if (letter != sign && !figure) {
                d.faulty(ahead + (char) letter, ahead.length(), 1);
            }
        }
        if (ahead.endsWith("1,1,1,1")) {
            reads(ahead + sign, 1);
        } else {
            d.faulty(ahead + sign, ahead.length() + 1, 1);
        }
    }

    private static void numbersAreAsTold() {
        numberIsWithin("e", ",0;" + THING, 0, 9);
        numberIsWithin("e0,", ";" + THING, 0, 20);
        numberIsWithin(LAW + "g", ",1,1,0;", 0, 60);
        numberIsWithin(LAW + "g0,", ",1,0;", 1, 9);
        numberIsWithin(LAW + "g0,1,", ",0;", 1, 9);
        numberIsWithin(LAW + "g0,1,1,", ";", 0, 1);
    }

    private static void numberIsWithin(String ahead, String behind, int least, int most) {
        for (int number = 0; number <= 99; number++) {
            String two = number < 10 ? "0" + number : "" + number;
            for (String figures : new String[] {"" + number, two}) {
                if (number >= least && number <= most) {
                    reads(ahead + figures + behind, 1);
                } else {
                    d.faulty(ahead + figures + behind, ahead.length(), 2);
                }
            }
        }
    }

    private static void numbersHaveTwoFiguresAtMost() {
        String[][] around = {{"e", ",0;" + THING}, {"e0,", ";" + THING}, {LAW + "g", ",1,1,0;"},
            {LAW + "g0,", ",1,0;"}, {LAW + "g0,1,", ",0;"}, {LAW + "g0,1,1,", ";"}};
        for (String[] one : around) {
            for (String run : new String[] {"000", "001", "010", "100", "999", "0000", "0001", "1111", "000001"}) {
                d.faulty(one[0] + run + one[1], one[0].length(), 1);
            }
            // The end of the text ends a run, too.
            d.faulty(one[0] + "001", one[0].length(), 1);
        }
    }

    private static void threeFiguresCannotStandAnywhere() {
        d.faulty("000", 0, 1);
        d.faulty(LAW + "000", 5, 1);
        d.faulty(LAW + THING + "000", 14, 1);
        d.faulty(SIX + "000", SIX.length(), 1);
        d.faulty("e0,0" + "g000", 4, 1);
    }

    private static void theEndIsHowManyBytesThereAre() {
        // No number of it, cut short, is out of its bounds.
        String text = "e9,20;g60,9,9,1;w10,1,1,0;";
        for (int length = 0; length < text.length(); length++) {
            String cut = text.substring(0, length);
            if (length == 16) {
                reads(cut, 1);
            } else {
                d.faulty(cut, length, 1);
            }
        }
        reads(text, 2);
    }

    private static void oneThingAtLeast() {
        d.faulty(LAW, 5, 1);
        d.faulty("e9,20;", 6, 1);
        d.faulty(LAW + LAW, 5, 1);
        reads(LAW + THING, 1);
    }

    private static void sixThingsAtMost() {
        for (int things = 1; things <= 6; things++) {
            reads(LAW + THING.repeat(things), things);
        }
        for (int letter = 0; letter <= 255; letter++) {
            d.faulty(SIX + (char) letter, SIX.length(), SORTS.indexOf(letter) >= 0 ? 3 : 1);
        }
        d.faulty(LAW + THING.repeat(7), 59, 3);
        d.faulty(SIX + "g61,1,1,0;", SIX.length(), 3);
        d.faulty(SIX + "g,", SIX.length(), 3);
    }

    private static void theLongestText() {
        d.due("its bytes", LONGEST.length(), 85);
        reads(LONGEST, 6);
        d.faulty(LONGEST + "w", 85, 3);
        d.faulty(LONGEST + "e", 85, 1);
        d.faulty(LONGEST + "w60,09,09,01;xx", 85, 3);
        EscrowLand x = Due.told(LONGEST);
        d.due("may", x.holds(1), 9);
        d.due("fee", x.holds(2), 20);
        int[] want = {60, 60, 9, 9, 1, 0, 1, 20};
        for (int what = 0; what < 8; what++) {
            d.due("the last thing: " + what, x.thing(5, what), want[what]);
        }
    }

    private static void theFirstTokenWithAFault() {
        d.faulty("e10,21;", 1, 2);
        d.faulty("e10", 1, 2);
        d.faulty("e10x", 1, 2);
        d.faulty("e100,21;", 1, 1);
        d.faulty("e0,21;g61", 3, 2);
        d.faulty("e0x21;", 2, 1);
        d.faulty(LAW + "g61,0,0,2;", 6, 2);
        d.faulty(LAW + "g60,0,0,2;", 9, 2);
        d.faulty(LAW + "g60,1,0,2;", 11, 2);
        d.faulty(LAW + "g60,1,1,2;", 13, 2);
        d.faulty(LAW + "g60,1,1,2", 13, 2);
        d.faulty(LAW + "g60,1,1,22", 13, 2);
        d.faulty(LAW + "g61" + ",1,1,0;" + THING.repeat(6), 6, 2);
        d.faulty(LAW + THING.repeat(5) + "g0,1,1,2;" + THING, 57, 2);
    }

    private static void ofOneTokenTheLeast() {
        // 1 ahead of 2: a number where none can stand, or of three figures, that is not as told, too.
        d.faulty("99", 0, 1);
        d.faulty(LAW + "99", 5, 1);
        d.faulty("e100,0;" + THING, 1, 1);
        d.faulty("e0,021;" + THING, 3, 1);
        d.faulty(LAW + "g0,000,1,0;", 8, 1);
        // 1 ahead of 3: what cannot begin a thing where there is room for none.
        d.faulty(SIX + "e", SIX.length(), 1);
        d.faulty(SIX + "0", SIX.length(), 1);
        d.faulty(SIX + ",", SIX.length(), 1);
        d.faulty(SIX + ";", SIX.length(), 1);
        d.faulty(SIX + "G", SIX.length(), 1);
    }

    private static void withAFaultAllStays() {
        EscrowLand x = Due.told("e2,3;g10,2,4,0;p40,2,1,1;");
        x.days(3);
        x.putBack(0);
        x.image(0);
        for (String text : new String[] {"", "e9,9", "e9,9;w1,1,1,1;z", "e10,9;w1,1,1,1;", LAW + THING.repeat(7)}) {
            d.holds("a fault: " + text, Due.read(x, text) <= FAULTY);
            d.due("things", x.count(1), 2);
            d.due("day", x.count(2), 3);
            d.due("cost", x.count(3), 27);
            d.due("acts", x.count(4), 4);
            d.due("may", x.holds(1), 2);
            d.due("fee", x.holds(2), 3);
            d.due("the first is", x.thing(0, 0), 10);
            d.due("the first was", x.thing(0, 1), 10);
            d.due("its kind", x.kind(0), 1);
            d.due("the second is", x.thing(1, 0), 41);
            d.due("the second's side", x.thing(1, 4), 1);
        }
        d.due("an act is undone", x.undo(), 3);
        d.due("it is", x.thing(0, 0), 16);
        d.due("the image", x.restore(0), 1);
        d.due("it is", x.thing(0, 0), 10);
    }

    private static void aLandStandsInPlaceOfTheOneBefore() {
        EscrowLand x = Due.told("e2,3;g10,2,4,0;");
        x.days(24);
        x.putBack(0);
        x.allow(9);
        d.due("the same once more", Due.read(x, "e2,3;g10,2,4,0;"), 1);
        d.due("day", x.count(2), 0);
        d.due("cost", x.count(3), 0);
        d.due("cost held", x.holds(0), 0);
        d.due("no act can be undone", x.count(4), 0);
        d.due("undo", x.undo(), STATE);
        d.due("may", x.holds(1), 2);
        d.due("is", x.thing(0, 0), 10);
        d.due("off", x.holds(3), 0);
        x.days(1);
        d.due("acts begin anew", x.count(4), 1);
        d.due("and are undone", x.undo(), 0);
        d.due("to what was read", x.thing(0, 0), 10);
    }

    private static void aSmallerLandLeavesNothingOfTheOneBefore() {
        EscrowLand x = Due.told("e0,0;p60,1,1,0;p50,1,1,0;f40,1,1,0;g30,1,1,1;w20,1,1,1;s10,1,1,1;");
        x.days(5);
        d.due("a smaller one", Due.read(x, "e1,2;g7,1,1,1;"), 1);
        for (int thing = 1; thing <= 5; thing++) {
            d.due("gone: " + thing, x.thing(thing, 0), BAD);
            d.due("gone, its kind: " + thing, x.kind(thing), BAD);
        }
        d.due("alike", x.holds(4), 1);
        d.due("nobody is matched", x.match(-1), 0);
        d.due("nobody is lost", x.lost(0), NONE);
        d.due("nothing falls", x.store(60), 0);
        d.due("off of one", x.days(1), 1);
        d.due("gain of one", x.gain(1), 10001);
        d.due("gain of none", x.gain(0), 10000);
        d.due("a greater one", Due.read(x, SIX), 6);
        d.due("the sixth is", x.thing(5, 0), 0);
        d.due("the sixth was", x.thing(5, 1), 0);
        d.due("alike", x.holds(4), 63);
    }

    private static void eachThingIsWhatItWas() {
        EscrowLand x = Due.told("e5,11;g0,1,9,0;f60,9,1,1;s9,2,8,0;p10,3,7,1;w59,8,2,0;p1,4,3,1;");
        int[][] want = {{0, 0, 1, 9, 0}, {60, 60, 9, 1, 1}, {9, 9, 2, 8, 0}, {10, 10, 3, 7, 1}, {59, 59, 8, 2, 0},
            {1, 1, 4, 3, 1}};
        int[] kinds = {1, 2, 3, 4, 5, 4};
        for (int thing = 0; thing < 6; thing++) {
            for (int what = 0; what < 5; what++) {
                d.due("thing " + thing + ", " + what, x.thing(thing, what), want[thing][what]);
            }
            d.due("not off: " + thing, x.thing(thing, 5), 0);
            d.due("kind of " + thing, x.kind(thing), kinds[thing]);
        }
        d.due("may", x.holds(1), 5);
        d.due("fee", x.holds(2), 11);
    }

    private static void faultTellsTheLatest() {
        EscrowLand x = new EscrowLand();
        d.due("0 before one", x.fault(), 0);
        Due.read(x, LAW + THING);
        d.due("0 before one, behind a land", x.fault(), 0);
        Due.read(x, LAW + THING.repeat(7));
        d.due("3", x.fault(), 3);
        Due.read(x, LAW + THING);
        d.due("3 is the latest still", x.fault(), 3);
        Due.read(x, "e10");
        d.due("2", x.fault(), 2);
        x.land();
        d.due("1", x.fault(), 1);
        x.feed(256);
        d.due("a refusal is no fault", x.fault(), 1);
    }
}
