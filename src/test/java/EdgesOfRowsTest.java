/** The edges of ROWS, promises 2 to 5 (1 for the rows of a new object): a test for each sentence that names one. */
public final class EdgesOfRowsTest implements Answers {
    /** Asked of its one thing, an ITEM 0 is what falls (bit 2), an ITEM 1 is every other kind. */
    private static final String ONE = "e0,0;g0,1,1,0;";
    private static final int SEEN_0 = 4, SEEN_1 = 2 + 8 + 16 + 32;
    private static final int[] NO_ROWS = {LEAST, -8, -1, 8, 9, MOST};

    private static final Due d = new Due();

    public static void main(String[] args) {
        rowsAreMissingAtFirst();
        rowsGoFrom0To7();
        lanesGoFrom0To2();
        rowsHave0To40Items();
        fewerThanNoneIsSize();
        badGoesAheadOfSize();
        anEmptyRowHasNoPlace();
        aFullRowHasFortyPlaces();
        itemsAre0AtFirst();
        itemsAre0AgainInPlaceOfOthers();
        aRowStandsInPlaceOfWhatIsThere();
        bytesKeepEightBits();
        shortsKeepSixteenBits();
        intsKeepAll();
        whatIsSetIsWhatIsKept();
        setRefusesInOrder();
        copyOfNone();
        copyOfAll();
        copyBeyondAnEnd();
        copyOfFewerThanNone();
        copySumsBeyondAnInt();
        copyOntoItselfIsAsItWasAhead();
        copyRefusesInOrder();
        copyTellsLanesApart();
        dropTellsHowManyThereWere();
        dropRefusesInOrder();
        d.end();
    }

    private static void rowsAreMissingAtFirst() {
        EscrowLand x = Due.told(ONE);
        for (int row = 0; row <= 7; row++) {
            d.due("missing: set " + row, x.set(row, 0, 0), NULL);
            d.due("missing: copy from " + row, x.copy(row, 0, row, 0, 0), NULL);
            d.due("missing: drop " + row, x.drop(row), NULL);
            d.due("missing: stealth " + row, x.stealth(row, 0, 1), NULL);
            d.due("missing: who " + row, x.who(0, row, 0, 1), NULL);
        }
        d.due("no rows", x.count(0), 0);
    }

    private static void rowsGoFrom0To7() {
        EscrowLand x = Due.told(ONE);
        for (int row = 0; row <= 7; row++) {
            d.due("row " + row, x.row(row, 0, 2), 2);
            d.due("rows up to " + row, x.count(0), row + 1);
        }
        for (int row : NO_ROWS) {
            d.due("no row " + row, x.row(row, 0, 1), BAD);
            d.due("no row, set " + row, x.set(row, 0, 0), BAD);
            d.due("no row, copy from " + row, x.copy(row, 0, 0, 0, 0), BAD);
            d.due("no row, copy to " + row, x.copy(0, 0, row, 0, 0), BAD);
            d.due("no row, drop " + row, x.drop(row), BAD);
            d.due("no row, stealth " + row, x.stealth(row, 0, 1), BAD);
            d.due("no row, who " + row, x.who(0, row, 0, 1), BAD);
        }
        for (int row = 0; row <= 7; row++) {
            d.due("set of row " + row, x.set(row, 1, row), row);
            d.due("drop of row " + row, x.drop(row), 2);
        }
        d.due("none left", x.count(0), 0);
    }

    private static void lanesGoFrom0To2() {
        EscrowLand x = new EscrowLand();
        for (int lane : new int[] {LEAST, -1, 3, 4, MOST}) {
            d.due("no lane " + lane, x.row(0, lane, 1), BAD);
        }
        d.due("no row by a lane that is none", x.count(0), 0);
        for (int lane = 0; lane <= 2; lane++) {
            d.due("lane " + lane, x.row(lane, lane, 1), 1);
        }
    }

    private static void rowsHave0To40Items() {
        for (int lane = 0; lane <= 2; lane++) {
            EscrowLand x = new EscrowLand();
            for (int n = 0; n <= 40; n++) {
                d.due("a row of " + n, x.row(n % 8, lane, n), n);
                d.due("it had " + n, x.drop(n % 8), n);
            }
            for (int n : new int[] {41, 42, 80, 255, MOST}) {
                d.due("a row of " + n, x.row(0, lane, n), BAD);
            }
            d.due("no row of too many", x.count(0), 0);
        }
    }

    private static void fewerThanNoneIsSize() {
        for (int n : new int[] {-1, -2, -40, -41, LEAST}) {
            EscrowLand x = new EscrowLand();
            d.due("a row of " + n, x.row(0, 0, n), SIZE);
            d.due("status of " + n, x.status(), 4);
            d.due("no row of " + n, x.count(0), 0);
        }
    }

    private static void badGoesAheadOfSize() {
        EscrowLand x = new EscrowLand();
        d.due("row 8 of -1", x.row(8, 0, -1), BAD);
        d.due("row -1 of -1", x.row(-1, 0, -1), BAD);
        d.due("lane 3 of -1", x.row(0, 3, -1), BAD);
        d.due("lane -1 of -1", x.row(0, -1, -1), BAD);
        d.due("no finding", x.status(), 0);
    }

    private static void anEmptyRowHasNoPlace() {
        EscrowLand x = Due.told(ONE);
        x.row(0, 1, 0);
        x.row(1, 1, 0);
        d.due("empty: there is one", x.count(0), 2);
        d.due("empty: set 0", x.set(0, 0, 0), PLACE);
        d.due("empty: set -1", x.set(0, -1, 0), PLACE);
        d.due("empty: copy none", x.copy(0, 0, 1, 0, 0), 0);
        d.due("empty: copy none onto itself", x.copy(0, 0, 0, 0, 0), 0);
        d.due("empty: copy one", x.copy(0, 0, 1, 0, 1), PLACE);
        d.due("empty: copy none from 1", x.copy(0, 1, 1, 0, 0), PLACE);
        d.due("empty: copy none to 1", x.copy(0, 0, 1, 1, 0), PLACE);
        d.due("empty: stealth", x.stealth(0, 0, 1), PLACE);
        d.due("empty: who", x.who(0, 0, 0, 1), PLACE);
        d.due("empty: drop", x.drop(0), 0);
        d.due("empty: missing then", x.drop(0), NULL);
    }

    private static void aFullRowHasFortyPlaces() {
        EscrowLand x = new EscrowLand();
        x.row(7, 2, 40);
        for (int i = 0; i < 40; i++) {
            d.due("full: set " + i, x.set(7, i, 1000 + i), 1000 + i);
        }
        for (int i : new int[] {LEAST, -1, 40, 41, MOST}) {
            d.due("full: set " + i, x.set(7, i, 5), PLACE);
        }
        x.row(0, 2, 1);
        d.due("one item: set 0", x.set(0, 0, 5), 5);
        d.due("one item: set 1", x.set(0, 1, 5), PLACE);
    }

    private static void itemsAre0AtFirst() {
        for (int lane = 0; lane <= 2; lane++) {
            EscrowLand x = Due.told(ONE);
            x.row(7, lane, 40);
            for (int i = 0; i < 40; i++) {
                d.due("0 at first: " + i, x.who(0, 7, i, 1), SEEN_0);
            }
        }
    }

    private static void itemsAre0AgainInPlaceOfOthers() {
        EscrowLand x = Due.told(ONE);
        fillWith1(x);
        x.row(3, 0, 40);
        allAre0(x, "made anew");
        fillWith1(x);
        x.drop(3);
        x.row(3, 0, 40);
        allAre0(x, "dropped between");
        fillWith1(x);
        x.row(3, 0, 2);
        x.row(3, 2, 40);
        allAre0(x, "shorter between, another lane");
    }

    private static void fillWith1(EscrowLand x) {
        x.row(3, 0, 40);
        for (int i = 0; i < 40; i++) {
            x.set(3, i, 1);
        }
    }

    private static void allAre0(EscrowLand x, String how) {
        for (int i = 0; i < 40; i++) {
            d.due(how + ": " + i, x.who(0, 3, i, 1), SEEN_0);
        }
    }

    private static void aRowStandsInPlaceOfWhatIsThere() {
        EscrowLand x = new EscrowLand();
        x.row(4, 0, 5);
        d.due("in place", x.row(4, 2, 2), 2);
        d.due("one row still", x.count(0), 1);
        d.due("its size", x.set(4, 2, 0), PLACE);
        d.due("its lane", x.set(4, 1, 70000), 70000);
        d.due("a refused one", x.row(4, 0, -1), SIZE);
        d.due("another refused one", x.row(4, 0, 41), BAD);
        d.due("the lane stays", x.set(4, 0, 70000), 70000);
        d.due("an empty one in place", x.row(4, 1, 0), 0);
        d.due("a row is there", x.count(0), 1);
        d.due("it had none", x.drop(4), 0);
    }

    private static void bytesKeepEightBits() {
        EscrowLand x = new EscrowLand();
        x.row(0, 0, 1);
        int[][] pairs = {{0, 0}, {1, 1}, {127, 127}, {128, -128}, {129, -127}, {255, -1}, {256, 0}, {257, 1},
            {383, 127}, {384, -128}, {-1, -1}, {-128, -128}, {-129, 127}, {-255, 1}, {-256, 0}, {-257, -1},
            {32767, -1}, {32768, 0}, {65535, -1}, {65664, -128}, {LEAST, 0}, {LEAST + 127, 127}, {MOST, -1}};
        for (int[] pair : pairs) {
            d.due("byte " + pair[0], x.set(0, 0, pair[0]), pair[1]);
        }
    }

    private static void shortsKeepSixteenBits() {
        EscrowLand x = new EscrowLand();
        x.row(0, 1, 1);
        int[][] pairs = {{0, 0}, {128, 128}, {255, 255}, {256, 256}, {32767, 32767}, {32768, -32768},
            {32769, -32767}, {65535, -1}, {65536, 0}, {65537, 1}, {98303, 32767}, {98304, -32768}, {-1, -1},
            {-32768, -32768}, {-32769, 32767}, {-65535, 1}, {-65536, 0}, {-65537, -1}, {LEAST, 0}, {MOST, -1}};
        for (int[] pair : pairs) {
            d.due("short " + pair[0], x.set(0, 0, pair[0]), pair[1]);
        }
    }

    private static void intsKeepAll() {
        EscrowLand x = new EscrowLand();
        x.row(0, 2, 1);
        for (int v : new int[] {0, 128, 32768, 65536, 1 << 24, -1, -129, -32769, BAD, LEAST, LEAST + 1, MOST}) {
            d.due("int " + v, x.set(0, 0, v), v);
        }
    }

    private static void whatIsSetIsWhatIsKept() {
        EscrowLand x = Due.told(ONE);
        x.row(0, 0, 1);
        x.set(0, 0, 257);
        d.due("257 is 1 in a byte", x.who(0, 0, 0, 1), SEEN_1);
        x.row(0, 1, 1);
        x.set(0, 0, 65536 + 1);
        d.due("65537 is 1 in a short", x.who(0, 0, 0, 1), SEEN_1);
        x.set(0, 0, 257);
        d.due("257 is not 1 in a short", x.who(0, 0, 0, 1), 0);
        x.row(0, 2, 1);
        x.set(0, 0, 65537);
        d.due("65537 is not 1 in an int", x.who(0, 0, 0, 1), 0);
        x.set(0, 0, -1);
        d.due("what is below 0 is kept", x.who(0, 0, 0, 1), 0);
    }

    private static void setRefusesInOrder() {
        EscrowLand x = new EscrowLand();
        d.due("BAD ahead of NULL", x.set(8, -1, 0), BAD);
        d.due("NULL ahead of PLACE", x.set(0, -1, 0), NULL);
        d.due("status", x.status(), 1);
        x.row(0, 0, 3);
        d.due("PLACE", x.set(0, 3, 0), PLACE);
        d.due("status", x.status(), 2);
        d.due("the last place", x.set(0, 2, 7), 7);
        d.due("status", x.status(), 0);
    }

    private static void copyOfNone() {
        EscrowLand x = Due.told(ONE);
        Due.fill(x, 0, 0, 1, 1, 1);
        x.row(1, 0, 2);
        d.due("none, at the first", x.copy(0, 0, 1, 0, 0), 0);
        d.due("none, behind the last of both", x.copy(0, 3, 1, 2, 0), 0);
        d.due("none, beyond a", x.copy(0, 4, 1, 0, 0), PLACE);
        d.due("none, beyond b", x.copy(0, 0, 1, 3, 0), PLACE);
        d.due("none, ahead of a", x.copy(0, -1, 1, 0, 0), PLACE);
        d.due("none, ahead of b", x.copy(0, 0, 1, -1, 0), PLACE);
        d.due("nothing came", x.who(0, 1, 0, 2), SEEN_0);
    }

    private static void copyOfAll() {
        EscrowLand x = Due.told(ONE);
        fillWith1(x);
        x.row(5, 0, 40);
        d.due("all forty", x.copy(3, 0, 5, 0, 40), 40);
        d.due("forty and one", x.copy(3, 0, 5, 0, 41), PLACE);
        d.due("all forty from the second on", x.copy(3, 1, 5, 0, 40), PLACE);
        d.due("all forty to the second", x.copy(3, 0, 5, 1, 40), PLACE);
        for (int i = 0; i < 40; i++) {
            d.due("came: " + i, x.who(0, 5, i, 1), SEEN_1);
        }
        d.due("onto itself", x.copy(3, 0, 3, 0, 40), 40);
        d.due("as it was", x.who(0, 3, 39, 1), SEEN_1);
    }

    private static void copyBeyondAnEnd() {
        EscrowLand x = Due.told(ONE);
        Due.fill(x, 0, 1, 1, 1, 1, 1, 1);
        Due.fill(x, 1, 1, 0, 0, 0);
        d.due("up to a's end", x.copy(0, 3, 1, 0, 2), 2);
        d.due("the first came", x.who(0, 1, 0, 1), SEEN_1);
        d.due("the second came", x.who(0, 1, 1, 1), SEEN_1);
        d.due("the third did not", x.who(0, 1, 2, 1), SEEN_0);
        d.due("beyond a's end by one", x.copy(0, 4, 1, 0, 2), PLACE);
        d.due("up to b's end", x.copy(0, 0, 1, 2, 1), 1);
        d.due("the third came", x.who(0, 1, 2, 1), SEEN_1);
        d.due("beyond b's end by one", x.copy(0, 0, 1, 2, 2), PLACE);
        d.due("more than b has", x.copy(0, 0, 1, 0, 4), PLACE);
        d.due("more than a has", x.copy(1, 0, 0, 0, 4), PLACE);
    }

    private static void copyOfFewerThanNone() {
        EscrowLand x = new EscrowLand();
        x.row(0, 2, 4);
        x.row(1, 2, 4);
        for (int n : new int[] {-1, -4, -5, LEAST}) {
            d.due("copy of " + n, x.copy(0, 4, 1, 4, n), PLACE);
            d.due("status", x.status(), 2);
        }
    }

    private static void copySumsBeyondAnInt() {
        EscrowLand x = new EscrowLand();
        x.row(0, 2, 4);
        x.row(1, 2, 4);
        d.due("n most", x.copy(0, 1, 1, 1, MOST), PLACE);
        d.due("i most", x.copy(0, MOST, 1, 0, 1), PLACE);
        d.due("j most", x.copy(0, 0, 1, MOST, 1), PLACE);
        d.due("i and n most", x.copy(0, MOST, 1, 0, MOST), PLACE);
        d.due("i, j and n most", x.copy(0, MOST, 1, MOST, MOST), PLACE);
        d.due("i least", x.copy(0, LEAST, 1, 0, LEAST), PLACE);
        d.due("j least", x.copy(0, 0, 1, LEAST, 1), PLACE);
        d.due("i least, n most", x.copy(0, LEAST, 1, 0, MOST), PLACE);
    }

    private static void copyOntoItselfIsAsItWasAhead() {
        // 1 to 12 is what grows by 1 from 0 on, and what a person does.
        EscrowLand up = Due.told(ONE);
        Due.fill(up, 0, 0, 1, 2, 3, 4, 5, 6, 7, 8, 9, 10, 11, 12, 0);
        d.due("up by one", up.copy(0, 0, 0, 1, 12), 12);
        d.due("up: as it was", up.who(0, 0, 1, 12), 2 + 16);
        d.due("up: the first stays", up.who(0, 0, 0, 1), SEEN_1);
        EscrowLand down = Due.told(ONE);
        Due.fill(down, 0, 0, 0, 1, 2, 3, 4, 5, 6, 7, 8, 9, 10, 11, 12);
        d.due("down by one", down.copy(0, 1, 0, 0, 12), 12);
        d.due("down: as it was", down.who(0, 0, 0, 12), 2 + 16);
        EscrowLand twelve = Due.told(ONE);
        Due.fill(twelve, 0, 0, 0, 1, 1, 1, 1, 1, 1, 1, 1, 1, 1, 1, 12);
        twelve.copy(0, 12, 0, 0, 1);
        d.due("one item from the last to the first", twelve.who(0, 0, 0, 1), 0);
    }

    private static void copyRefusesInOrder() {
        EscrowLand x = new EscrowLand();
        x.row(0, 0, 4);
        x.row(1, 1, 4);
        d.due("BAD a ahead of NULL b", x.copy(8, -1, 5, -1, -1), BAD);
        d.due("BAD b ahead of NULL a", x.copy(5, -1, 8, -1, -1), BAD);
        d.due("no finding yet", x.status(), 0);
        d.due("NULL a ahead of PLACE", x.copy(5, -1, 0, -1, -1), NULL);
        d.due("NULL b ahead of PLACE", x.copy(0, -1, 5, -1, -1), NULL);
        d.due("NULL of both", x.copy(5, 0, 6, 0, 0), NULL);
        d.due("status", x.status(), 1);
        d.due("STORE ahead of PLACE", x.copy(0, -1, 1, -1, -1), STORE);
        d.due("STORE of none", x.copy(0, 0, 1, 0, 0), STORE);
        d.due("status", x.status(), 5);
        d.due("PLACE", x.copy(0, 0, 0, 0, 5), PLACE);
        d.due("status", x.status(), 2);
        d.due("n", x.copy(0, 0, 0, 0, 4), 4);
        d.due("status", x.status(), 0);
    }

    private static void copyTellsLanesApart() {
        for (int a = 0; a <= 2; a++) {
            for (int b = 0; b <= 2; b++) {
                EscrowLand x = new EscrowLand();
                x.row(0, a, 2);
                x.row(1, b, 2);
                d.due("copy of lane " + a + " to " + b, x.copy(0, 0, 1, 0, 2), a == b ? 2 : STORE);
            }
        }
        // A missing row had a lane once: it is NULL all the same, and another lane may follow.
        EscrowLand x = new EscrowLand();
        x.row(0, 0, 1);
        x.row(1, 2, 1);
        x.drop(1);
        d.due("dropped", x.copy(0, 0, 1, 0, 1), NULL);
        x.row(1, 0, 1);
        d.due("of the same lane now", x.copy(0, 0, 1, 0, 1), 1);
    }

    private static void dropTellsHowManyThereWere() {
        EscrowLand x = new EscrowLand();
        x.row(0, 0, 0);
        x.row(1, 1, 1);
        x.row(7, 2, 40);
        d.due("40", x.drop(7), 40);
        d.due("two left", x.count(0), 2);
        d.due("0", x.drop(0), 0);
        d.due("1", x.drop(1), 1);
        d.due("none left", x.count(0), 0);
        d.due("missing from now on", x.set(7, 0, 0), NULL);
    }

    private static void dropRefusesInOrder() {
        EscrowLand x = new EscrowLand();
        d.due("missing", x.drop(7), NULL);
        d.due("status", x.status(), 1);
        d.due("no such", x.drop(8), BAD);
        d.due("status stays", x.status(), 1);
        x.row(7, 0, 0);
        x.set(7, 0, 0);
        d.due("an empty one is there", x.drop(7), 0);
        d.due("status", x.status(), 0);
    }
}
