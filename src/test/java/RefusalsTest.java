import java.util.ArrayList;
import java.util.List;

/**
 * "What is refused, or found, changes nothing but status()": each refusal of each call is made in a land where much has
 * been done; then all that can be seen is compared with what is seen of such a land without it.
 */
public final class RefusalsTest implements Answers {
    private interface Call {
        long on(EscrowLand x);
    }

    /** How a land is brought to where a call is refused. */
    private interface Begin {
        EscrowLand made();
    }

    private static final String TEXT = "e2,3;g0,1,4,0;f20,3,2,1;s30,5,1,0;p40,2,1,1;w50,4,1,0;";
    private static final int[] BEYOND = {LEAST, LEAST + 1, -1000000, -2};

    private static final Due d = new Due();

    public static void main(String[] args) {
        rowsRefuse();
        textsRefuse();
        actsRefuse();
        foretoldRefuses();
        rowsForetoldRefuse();
        asksRefuse();
        withoutALandAllRefuse();
        atTheEndsAllRefuse();
        whatIsForetoldChangesNothing();
        d.end();
    }

    /**
     * Much has been done: rows of each lane, one of them empty; acts of each kind; one image; bytes on the tape; a
     * trace; a fault 2; status 2.
     */
    private static EscrowLand much() {
        EscrowLand x = new EscrowLand();
        Due.read(x, "e10");
        Due.read(x, TEXT);
        x.days(2);
        x.image(0);
        x.days(1);
        x.putBack(1);
        x.send(3, 4);
        x.allow(4);
        Due.fill(x, 0, 0, 4, 5, 6);
        Due.fill(x, 1, 1, 4, 5, 6, 7);
        x.row(2, 2, 0);
        Due.fill(x, 3, 2, 4, 5);
        x.feed('e');
        x.feed('7');
        x.ask(1, 0);
        x.set(0, 3, 0);
        return x;
    }

    private static EscrowLand noLand() {
        EscrowLand x = new EscrowLand();
        Due.read(x, "e10");
        Due.fill(x, 0, 0, 1, 2, 3);
        x.feed('e');
        x.feed('7');
        x.set(0, 3, 0);
        return x;
    }

    private static EscrowLand fullTape() {
        EscrowLand x = Due.told(TEXT);
        for (int n = 0; n < 100; n++) {
            x.feed('z');
        }
        return x;
    }

    private static EscrowLand lastDay() {
        EscrowLand x = Due.told(TEXT);
        Due.pass(x, 998);
        return x;
    }

    /** All that can be seen but status(), by calls that change things where nothing else tells: the land is spent. */
    private static List<Long> sight(EscrowLand x) {
        List<Long> seen = new ArrayList<>();
        for (int what = 0; what <= 5; what++) {
            seen.add((long) x.count(what));
        }
        seen.add((long) x.fault());
        for (int i = 0; i <= 6; i++) {
            seen.add((long) x.trace(i));
        }
        for (int row = 0; row < 4; row++) {
            seen.add((long) x.who(0, row, 0, 1));
            seen.add((long) x.who(0, row, 0, 2));
            seen.add((long) x.who(0, row, 0, 3));
            seen.add((long) x.who(0, row, 0, 4));
            seen.add((long) x.set(row, 0, 70000));
        }
        for (int row = 0; row < 8; row++) {
            seen.add((long) x.drop(row));
        }
        seeLand(x, seen);
        for (int acts = 0; acts < 7; acts++) {
            seen.add((long) x.undo());
            seeLand(x, seen);
        }
        for (int k = 0; k <= 1; k++) {
            seen.add((long) x.restore(k));
            seeLand(x, seen);
        }
        seen.add((long) Due.read(x, ",5;p9,1,1,1;"));
        seeLand(x, seen);
        return seen;
    }

    private static void seeLand(EscrowLand x, List<Long> seen) {
        for (int what = 1; what <= 4; what++) {
            seen.add((long) x.count(what));
        }
        seen.add((long) x.holds(1));
        seen.add((long) x.holds(2));
        for (int thing = 0; thing < 6; thing++) {
            seen.add((long) x.thing(thing, 0));
        }
        seen.add((long) x.thing(1, 1));
        seen.add((long) x.kind(4));
    }

    private static void refused(Begin begin, String name, Call call, long answer) {
        List<Long> without = sight(begin.made());
        EscrowLand x = begin.made();
        int status = x.status();
        d.due(name, call.on(x), answer);
        boolean finding = answer <= NULL && answer >= STORE;
        d.due("status of " + name, x.status(), finding ? -1000010 - answer : status);
        d.holds("changes nothing: " + name, sight(x).equals(without));
    }

    private static void refused(String name, Call call, long answer) {
        refused(RefusalsTest::much, name, call, answer);
    }

    private interface Value {
        Call of(int value);
    }

    /** A number that goes from least to most: none beyond either end is taken. */
    private static void bounds(String name, int least, int most, Value value) {
        for (int low : BEYOND) {
            refused(name + " " + low, value.of(low), BAD);
        }
        refused(name + " " + (least - 1), value.of(least - 1), BAD);
        refused(name + " " + (most + 1), value.of(most + 1), BAD);
        refused(name + " " + MOST, value.of(MOST), BAD);
        d.holds(name + " " + least + " is not BAD", value.of(least).on(much()) != BAD);
        d.holds(name + " " + most + " is not BAD", value.of(most).on(much()) != BAD);
    }

    private static void rowsRefuse() {
        bounds("row, row", 0, 7, v -> x -> x.row(v, 0, 1));
        bounds("row, lane", 0, 2, v -> x -> x.row(0, v, 1));
        refused("row of 41", x -> x.row(0, 0, 41), BAD);
        refused("row of most", x -> x.row(0, 0, MOST), BAD);
        refused("row of -1", x -> x.row(0, 0, -1), SIZE);
        refused("row of least", x -> x.row(0, 0, LEAST), SIZE);
        refused("row of -1 where none is", x -> x.row(7, 0, -1), SIZE);
        bounds("set, row", 0, 7, v -> x -> x.set(v, 0, 9));
        refused("set, missing", x -> x.set(7, 0, 9), NULL);
        for (int i : new int[] {LEAST, -1, 3, 4, 40, MOST}) {
            refused("set, place " + i, x -> x.set(0, i, 9), PLACE);
        }
        refused("set, empty", x -> x.set(2, 0, 9), PLACE);
        bounds("copy, a", 0, 7, v -> x -> x.copy(v, 0, 0, 0, 1));
        bounds("copy, b", 0, 7, v -> x -> x.copy(0, 0, v, 0, 1));
        refused("copy, a missing", x -> x.copy(7, 0, 0, 0, 1), NULL);
        refused("copy, b missing", x -> x.copy(0, 0, 7, 0, 1), NULL);
        refused("copy, lanes", x -> x.copy(0, 1, 1, 0, 1), STORE);
        refused("copy, lanes, of none", x -> x.copy(0, 0, 3, 0, 0), STORE);
        for (int i : new int[] {LEAST, -1, 3, 4, MOST}) {
            refused("copy, i " + i, x -> x.copy(0, i, 0, 0, 1), PLACE);
            refused("copy, j " + i, x -> x.copy(0, 1, 0, i, 1), PLACE);
        }
        for (int n : new int[] {LEAST, -1, 4, 40, MOST}) {
            refused("copy, n " + n, x -> x.copy(0, 0, 0, 0, n), PLACE);
        }
        refused("copy, beyond a by one", x -> x.copy(0, 1, 0, 0, 3), PLACE);
        refused("copy, beyond b by one", x -> x.copy(0, 0, 0, 1, 3), PLACE);
        bounds("drop", 0, 7, v -> x -> x.drop(v));
        refused("drop, missing", x -> x.drop(7), NULL);
    }

    private static void textsRefuse() {
        bounds("feed", 0, 255, v -> x -> x.feed(v));
        refused(RefusalsTest::fullTape, "feed, full", x -> x.feed('e'), FULL);
        refused(RefusalsTest::fullTape, "feed, full, of -1", x -> x.feed(-1), BAD);
        refused(RefusalsTest::fullTape, "feed, full, of 256", x -> x.feed(256), BAD);
    }

    private static void actsRefuse() {
        bounds("days", 1, 24, v -> x -> x.days(v));
        bounds("putBack", 0, 4, v -> x -> x.putBack(v));
        refused("putBack, not off", x -> x.putBack(1), STATE);
        refused("putBack, a person", x -> x.putBack(3), STATE);
        refused("putBack, a widow", x -> x.putBack(4), STATE);
        bounds("send", 0, 4, v -> x -> x.send(v, v == 3 ? 4 : 3));
        bounds("send, other", 0, 4, v -> x -> x.send(v == 3 ? 4 : 3, v));
        refused("send, alike", x -> x.send(3, 3), BAD);
        refused("send, alike, no person", x -> x.send(0, 0), BAD);
        refused("send, no person", x -> x.send(0, 3), STATE);
        refused("send, the other no person", x -> x.send(3, 2), STATE);
        bounds("allow", 0, 9, v -> x -> x.allow(v));
        bounds("thing", 0, 4, v -> x -> x.thing(v, 0));
        bounds("thing, what", 0, 7, v -> x -> x.thing(0, v));
        bounds("holds", 0, 4, v -> x -> x.holds(v));
    }

    private static void foretoldRefuses() {
        bounds("ahead", 0, 4, v -> x -> x.ahead(v, 0));
        bounds("ahead, n", 0, 60, v -> x -> x.ahead(0, v));
        bounds("offAhead", 0, 60, v -> x -> x.offAhead(v));
        bounds("lost", 0, 1, v -> x -> x.lost(v));
        bounds("cheapest", 0, 4, v -> x -> x.cheapest(v, 1, 0));
        bounds("cheapest, n", 1, 24, v -> x -> x.cheapest(0, v, 0));
        bounds("cheapest, what", 0, 1, v -> x -> x.cheapest(0, 1, v));
        refused("cheapest, a person", x -> x.cheapest(3, 1, 0), STATE);
        refused("cheapest, a widow", x -> x.cheapest(4, 1, 0), STATE);
        bounds("match", -1, 4, v -> x -> x.match(v));
        bounds("gain", 0, 1, v -> x -> x.gain(v));
        bounds("seldom", 0, 4, v -> x -> x.seldom(v, 1));
        bounds("seldom, m", 1, 60, v -> x -> x.seldom(0, v));
        bounds("leastMay", 0, 60, v -> x -> x.leastMay(v));
        bounds("odds", 0, 4, v -> x -> x.odds(v, 1, 1, 0));
        bounds("odds, p", 0, 10, v -> x -> x.odds(0, v, 1, 0));
        bounds("odds, n", 0, 9, v -> x -> x.odds(0, 1, v, 0));
        bounds("odds, what", 0, 1, v -> x -> x.odds(0, 1, 1, v));
        refused("odds, seasons", x -> x.odds(2, 1, 1, 0), STATE);
        refused("odds, a person", x -> x.odds(3, 1, 1, 0), STATE);
        refused("odds, a widow", x -> x.odds(4, 1, 1, 0), STATE);
        bounds("store", 1, 60, v -> x -> x.store(v));
        bounds("drawn, n", 0, 60, v -> x -> x.drawn(v, 1, 0));
        bounds("drawn, seed", 1, 999999, v -> x -> x.drawn(1, v, 0));
        bounds("drawn, what", 0, 1, v -> x -> x.drawn(1, 1, v));
        bounds("image", 0, 1, v -> x -> x.image(v));
        bounds("restore", 0, 1, v -> x -> x.restore(v));
        refused("restore, not kept", x -> x.restore(1), STATE);
    }

    private static void rowsForetoldRefuse() {
        bounds("stealth, row", 0, 7, v -> x -> x.stealth(v, 0, 1));
        bounds("stealth, n", 1, 12, v -> x -> x.stealth(0, 0, v));
        refused("stealth, missing", x -> x.stealth(7, 0, 1), NULL);
        refused("stealth, empty", x -> x.stealth(2, 0, 1), PLACE);
        bounds("who", 0, 4, v -> x -> x.who(v, 0, 0, 1));
        bounds("who, row", 0, 7, v -> x -> x.who(0, v, 0, 1));
        bounds("who, n", 1, 12, v -> x -> x.who(0, 0, 0, v));
        refused("who, missing", x -> x.who(0, 7, 0, 1), NULL);
        refused("who, empty", x -> x.who(0, 2, 0, 1), PLACE);
        for (int i : new int[] {LEAST, -1, 3, 4, 40, MOST}) {
            refused("stealth, place " + i, x -> x.stealth(0, i, 1), PLACE);
            refused("who, place " + i, x -> x.who(0, 0, i, 1), PLACE);
        }
        refused("stealth, beyond the end", x -> x.stealth(0, 1, 3), PLACE);
        refused("who, beyond the end", x -> x.who(0, 0, 1, 3), PLACE);
    }

    private static void asksRefuse() {
        bounds("kind", 0, 4, v -> x -> x.kind(v));
        bounds("as", 0, 4, v -> x -> x.as(v, 0));
        bounds("as, kind", 0, 5, v -> x -> x.as(0, v));
        refused("as, no such one", x -> x.as(0, 2), KIND);
        bounds("ask", 0, 4, v -> x -> x.ask(v, 0));
        bounds("ask, what", 0, 1, v -> x -> x.ask(0, v));
        bounds("count", 0, 5, v -> x -> x.count(v));
        for (int i : new int[] {LEAST, -1, 6, 15, 16, MOST}) {
            refused("trace " + i, x -> x.trace(i), NONE);
        }
    }

    /** STATE goes ahead of BAD where it is told so; of a thing, and of an image, BAD comes first. */
    private static void withoutALandAllRefuse() {
        for (int n : new int[] {1, LEAST, -1000, MOST}) {
            none("days " + n, x -> x.days(n), STATE);
            none("allow " + n, x -> x.allow(n), STATE);
            none("holds " + n, x -> x.holds(n), STATE);
            none("offAhead " + n, x -> x.offAhead(n), STATE);
            none("lost " + n, x -> x.lost(n), STATE);
            none("match " + n, x -> x.match(n), STATE);
            none("gain " + n, x -> x.gain(n), STATE);
            none("stealth, n " + n, x -> x.stealth(0, 0, n), STATE);
            none("stealth, row " + n, x -> x.stealth(n, 0, 1), STATE);
            none("leastMay " + n, x -> x.leastMay(n), STATE);
            none("store " + n, x -> x.store(n), STATE);
            none("drawn, n " + n, x -> x.drawn(n, 1, 0), STATE);
            none("drawn, seed " + n, x -> x.drawn(1, n, 0), STATE);
            none("drawn, what " + n, x -> x.drawn(1, 1, n), STATE);
            none("putBack " + n, x -> x.putBack(n), BAD);
            none("send " + n, x -> x.send(0, n), BAD);
            none("thing " + n, x -> x.thing(0, n), BAD);
            none("ahead " + n, x -> x.ahead(0, n), BAD);
            none("cheapest " + n, x -> x.cheapest(0, n, 0), BAD);
            none("seldom " + n, x -> x.seldom(0, n), BAD);
            none("who " + n, x -> x.who(0, 0, 0, n), BAD);
            none("odds " + n, x -> x.odds(0, n, 0, 0), BAD);
            none("kind " + n, x -> x.kind(n), BAD);
            none("as " + n, x -> x.as(0, n), BAD);
            none("ask " + n, x -> x.ask(0, n), BAD);
            none("image " + n, x -> x.image(n), n == 1 ? STATE : BAD);
            none("restore " + n, x -> x.restore(n), n == 1 ? STATE : BAD);
        }
        none("who, missing", x -> x.who(0, 7, 0, 1), BAD);
        none("undo", x -> x.undo(), STATE);
        none("round", x -> x.round(), STATE);
    }

    private static void none(String name, Call call, long answer) {
        refused(RefusalsTest::noLand, "no land: " + name, call, answer);
    }

    private static void atTheEndsAllRefuse() {
        refused(RefusalsTest::lastDay, "days to 1000", x -> x.days(2), FULL);
        refused(RefusalsTest::lastDay, "days to 1022", x -> x.days(24), FULL);
        refused(RefusalsTest::lastDay, "days, BAD ahead of FULL", x -> x.days(25), BAD);
        refused(() -> Due.told(TEXT), "undo of none", x -> x.undo(), STATE);
        refused(() -> Due.told(TEXT), "restore of none", x -> x.restore(0), STATE);
    }

    private static void whatIsForetoldChangesNothing() {
        foretold("ahead", x -> x.ahead(0, 60));
        foretold("offAhead", x -> x.offAhead(60));
        foretold("lost", x -> x.lost(0));
        foretold("cheapest", x -> x.cheapest(0, 24, 0));
        foretold("match", x -> x.match(-1));
        foretold("gain", x -> x.gain(0));
        foretold("seldom", x -> x.seldom(0, 30));
        foretold("round", x -> x.round());
        foretold("stealth", x -> x.stealth(0, 0, 3));
        foretold("who", x -> x.who(0, 0, 0, 3));
        foretold("leastMay", x -> x.leastMay(60));
        foretold("odds", x -> x.odds(0, 3, 9, 0));
        foretold("store", x -> x.store(60));
        foretold("drawn", x -> x.drawn(60, 5, 0));
        foretold("thing", x -> x.thing(0, 7));
        foretold("holds", x -> x.holds(4));
        foretold("kind", x -> x.kind(0));
        foretold("as", x -> x.as(0, 1));
        foretold("fault", x -> x.fault());
        foretold("count", x -> x.count(0));
        foretold("trace", x -> x.trace(0));
        foretold("status", x -> x.status());
    }

    private static void foretold(String name, Call call) {
        EscrowLand x = much();
        long answer = call.on(x);
        d.holds("not refused: " + name, answer != BAD && answer != STATE && answer != FULL);
        d.due("the same once more: " + name, call.on(x), answer);
        d.holds("changes nothing: " + name, sight(x).equals(sight(much())));
    }
}
