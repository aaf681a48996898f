import java.util.Arrays;
import java.util.Random;

/** Random runs of 512 calls, each answer compared with that of the plain land. The seeds are fixed. */
public final class RandomRunsTest {
    private static final int RUNS = 1500, CALLS = 512;

    private static final Due d = new Due();

    private final Random random;
    private final EscrowLand land = new EscrowLand();
    private final PlainLand plain = new PlainLand();
    private final StringBuilder told = new StringBuilder();
    private int calls = 0;

    private RandomRunsTest(int seed) {
        random = new Random(seed);
    }

    public static void main(String[] args) {
        for (int seed = 0; seed < RUNS && d.isAllRight(); seed++) {
            new RandomRunsTest(seed).run(seed);
        }
        d.end();
    }

    private void run(int seed) {
        while (calls < CALLS && d.isAllRight()) {
            step();
        }
        if (!d.isAllRight()) {
            System.out.println("in the run of seed " + seed + ":" + told);
        }
    }

    private void step() {
        int kind = random.nextInt(100);
        if (kind < 3) {
            tell();
        } else if (kind < 12) {
            foretellIntoRow();
        } else if (kind < 16) {
            oddOrWild();
        } else {
            oneCall();
        }
    }

    private long call(String name, int... a) {
        if (calls >= CALLS) {
            return 0;
        }
        calls++;
        told.append(' ').append(name).append(Arrays.toString(a));
        long want = plain.call(name, a);
        d.due(name + Arrays.toString(a), answer(name, a), want);
        return want;
    }

    private long answer(String name, int... a) {
        EscrowLand x = land;
        switch (name) {
            case "row": return x.row(a[0], a[1], a[2]);
            case "set": return x.set(a[0], a[1], a[2]);
            case "copy": return x.copy(a[0], a[1], a[2], a[3], a[4]);
            case "drop": return x.drop(a[0]);
            case "feed": return x.feed(a[0]);
            case "land": return x.land();
            case "fault": return x.fault();
            case "undo": return x.undo();
            case "days": return x.days(a[0]);
            case "putBack": return x.putBack(a[0]);
            case "send": return x.send(a[0], a[1]);
            case "allow": return x.allow(a[0]);
            case "thing": return x.thing(a[0], a[1]);
            case "holds": return x.holds(a[0]);
            case "ahead": return x.ahead(a[0], a[1]);
            case "offAhead": return x.offAhead(a[0]);
            case "lost": return x.lost(a[0]);
            case "cheapest": return x.cheapest(a[0], a[1], a[2]);
            case "match": return x.match(a[0]);
            case "gain": return x.gain(a[0]);
            case "seldom": return x.seldom(a[0], a[1]);
            case "round": return x.round();
            case "stealth": return x.stealth(a[0], a[1], a[2]);
            case "who": return x.who(a[0], a[1], a[2], a[3]);
            case "leastMay": return x.leastMay(a[0]);
            case "odds": return x.odds(a[0], a[1], a[2], a[3]);
            case "store": return x.store(a[0]);
            case "drawn": return x.drawn(a[0], a[1], a[2]);
            case "image": return x.image(a[0]);
            case "restore": return x.restore(a[0]);
            case "kind": return x.kind(a[0]);
            case "as": return x.as(a[0], a[1]);
            case "ask": return x.ask(a[0], a[1]);
            case "trace": return x.trace(a[0]);
            case "count": return x.count(a[0]);
            case "status": return x.status();
            default: throw new IllegalArgumentException(name);
        }
    }

    /** A land, now and then with a byte changed, left out or put in, or cut off. */
    private void tell() {
        StringBuilder text = new StringBuilder();
        text.append('e').append(random.nextInt(10)).append(',').append(random.nextInt(21)).append(';');
        int things = 1 + random.nextInt(random.nextInt(8) == 0 ? 7 : 6);
        boolean people = random.nextInt(3) == 0;
        for (int t = 0; t < things; t++) {
            text.append((people ? "pw" : "gfspw").charAt(random.nextInt(people ? 2 : 5)));
            text.append(random.nextInt(61)).append(',').append(1 + random.nextInt(9)).append(',');
            text.append(1 + random.nextInt(9)).append(',').append(random.nextInt(2)).append(';');
        }
        int change = random.nextInt(8);
        int at = random.nextInt(text.length());
        if (change == 0) {
            text.setCharAt(at, (char) random.nextInt(256));
        } else if (change == 1) {
            text.setCharAt(at, "0123456789,;egfspwz".charAt(random.nextInt(19)));
        } else if (change == 2) {
            text.deleteCharAt(at);
        } else if (change == 3) {
            text.insert(at, "0123456789,;egfspwz".charAt(random.nextInt(19)));
        } else if (change == 4 && random.nextBoolean()) {
            text.setLength(at);
        }
        for (int i = 0; i < text.length(); i++) {
            call("feed", text.charAt(i));
        }
        call("land");
        call("fault");
    }

    /** What is told of the days to come, nearly right, so that not all answers are 0. */
    private void foretellIntoRow() {
        int row = random.nextInt(8);
        int n = 1 + random.nextInt(12);
        int from = random.nextInt(4);
        int thing = random.nextInt(6);
        boolean one = random.nextBoolean();
        call("row", row, random.nextInt(3), from + n + random.nextInt(3));
        for (int k = 1; k <= n; k++) {
            long then = one ? plain.call("ahead", thing, k) : plain.call("offAhead", k);
            call("set", row, from + k - 1, (int) then + (random.nextInt(30) == 0 ? 1 : 0));
        }
        if (one) {
            call("who", thing, row, from, n);
            call("who", thing, row, from, 1);
        } else {
            call("stealth", row, from, n);
            call("stealth", row, from, 1);
        }
        call("status");
    }

    private static final String[] NAMES = {"row", "set", "copy", "drop", "feed", "land", "fault", "undo", "days",
        "putBack", "send", "allow", "thing", "holds", "ahead", "offAhead", "lost", "cheapest", "match", "gain",
        "seldom", "round", "stealth", "who", "leastMay", "odds", "store", "drawn", "image", "restore", "kind", "as",
        "ask", "trace", "count", "status"};
    private static final int[] TAKES = {3, 3, 5, 1, 1, 0, 0, 0, 1, 1, 2, 1, 2, 1, 2, 1, 1, 3, 1, 1, 2, 0, 3, 4, 1, 4,
        1, 3, 1, 1, 1, 2, 2, 1, 1, 0};
    private static final int[] WILD = {Integer.MIN_VALUE, Integer.MIN_VALUE + 1, -1000000, -2, -1, 0, 1, 2, 5, 6, 7, 8,
        9, 10, 11, 12, 13, 24, 25, 30, 31, 39, 40, 41, 60, 61, 99, 100, 255, 256, 999999, 1000000, Integer.MAX_VALUE};

    private void oddOrWild() {
        int which = random.nextInt(NAMES.length);
        int[] a = new int[TAKES[which]];
        for (int i = 0; i < a.length; i++) {
            a[i] = random.nextBoolean() ? random.nextInt(4) : WILD[random.nextInt(WILD.length)];
        }
        call(NAMES[which], a);
    }

    private int upTo(int most) {
        return random.nextInt(most + 1);
    }

    private int thing() {
        return random.nextInt(60) == 0 ? upTo(8) - 1 : upTo(5);
    }

    private void oneCall() {
        switch (random.nextInt(30)) {
            case 0: call("copy", upTo(7), upTo(9), upTo(7), upTo(9), upTo(9) - 1); break;
            case 1: call("set", upTo(7), upTo(12), random.nextInt()); break;
            case 2: call(random.nextBoolean() ? "drop" : "undo", random.nextBoolean() ? upTo(7) : upTo(8)); break;
            case 3: call("undo"); break;
            case 4: call("days", 1 + upTo(random.nextInt(4) == 0 ? 23 : 3)); break;
            case 5: call("putBack", thing()); break;
            case 6: call("send", thing(), thing()); break;
            case 7: call("allow", upTo(9)); break;
            case 8: call("thing", thing(), upTo(7)); break;
            case 9: call("holds", upTo(4)); break;
            case 10: call("ahead", thing(), upTo(60)); break;
            case 11: call("offAhead", upTo(60)); break;
            case 12: call("lost", upTo(1)); break;
            case 13: call("cheapest", thing(), 1 + upTo(23), upTo(1)); break;
            case 14: call("match", upTo(6) - 1); break;
            case 15: call("gain", upTo(1)); break;
            case 16: call("seldom", thing(), 1 + upTo(random.nextBoolean() ? 59 : 9)); break;
            case 17: call("round"); break;
            case 18: call("stealth", upTo(7), upTo(5), 1 + upTo(11)); break;
            case 19: call("who", thing(), upTo(7), upTo(5), 1 + upTo(3)); break;
            case 20: call("leastMay", upTo(60)); break;
            case 21: call("odds", thing(), upTo(10), upTo(9), upTo(1)); break;
            case 22: call("store", 1 + upTo(59)); break;
            case 23: call("drawn", upTo(60), 1 + upTo(999998), upTo(1)); break;
            case 24: call("image", upTo(1)); break;
            case 25: call(random.nextInt(4) == 0 ? "restore" : "kind", upTo(1)); break;
            case 26: call("as", thing(), upTo(5)); break;
            case 27: call("ask", thing(), upTo(1)); break;
            case 28: call("trace", upTo(7)); break;
            default: call(random.nextInt(3) == 0 ? "status" : "count", upTo(5)); break;
        }
    }
}
