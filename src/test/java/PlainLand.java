import java.math.BigInteger;
import java.util.ArrayDeque;
import java.util.ArrayList;
import java.util.Collections;
import java.util.Deque;
import java.util.HashMap;
import java.util.List;
import java.util.Map;
import java.util.TreeMap;

/**
 * The document once more, by other ways than the class goes: worlds that are never changed but made anew, all ways
 * tried out where there are few, and no care for speed or room. Random runs are compared with it.
 */
final class PlainLand {
    private static final int NONE = -1000000, BAD = -1000001, STATE = -1000002, FULL = -1000003;

    private record Thing(char sort, int was, int by, int price, int side) {
        boolean person() {
            return sort == 'p' || sort == 'w';
        }

        int off(int is) {
            return Math.abs(is - was);
        }

        Thing ofSort(char other) {
            return new Thing(other, was, by, price, side);
        }

        int next(int is, int day) {
            int more = 0;
            boolean ages = (day + 1) % by == 0;
            if (sort == 'g' || sort == 's' && day % 2 == 0) {
                more = by;
            } else if (sort == 'f' || sort == 's') {
                more = -by;
            } else if (sort == 'w' && (day + 1) % 7 == 0) {
                more = -by;
            } else if (ages) {
                more = 1;
            }
            int then = is + more;
            return then < 0 ? 0 : then > 99 ? 99 : then;
        }
    }

    private record World(List<Thing> things, List<Integer> is, int may, int fee, int day, int cost) {
        World with(int thing, int value) {
            List<Integer> other = new ArrayList<>(is);
            other.set(thing, value);
            return new World(things, other, may, fee, day, cost);
        }

        World paying(int more) {
            return new World(things, is, may, fee, day, cost + more);
        }

        World allowing(int other) {
            return new World(things, is, other, fee, day, cost);
        }

        World tomorrow(int hasty) {
            List<Integer> then = new ArrayList<>();
            for (int t = 0; t < things.size(); t++) {
                int once = things.get(t).next(is.get(t), day);
                then.add(t == hasty ? things.get(t).next(once, day) : once);
            }
            return new World(things, then, may, fee, day + 1, cost);
        }

        World behind(int n) {
            return n == 0 ? this : tomorrow(-1).behind(n - 1);
        }

        int off(int t) {
            return things.get(t).off(is.get(t));
        }

        int allOff() {
            int sum = 0;
            for (int t = 0; t < things.size(); t++) {
                sum += off(t);
            }
            return sum;
        }

        boolean alike(int t) {
            return off(t) <= may;
        }

        int toPutBack(int t) {
            return things.get(t).price() * off(t) + fee;
        }
    }

    private record Row(int lane, List<Integer> items) {
    }

    private record Token(char type, int value, int place) {
    }

    private final Map<Integer, Row> rows = new HashMap<>();
    private final Map<Integer, World> images = new HashMap<>();
    private final Deque<World> acts = new ArrayDeque<>();
    private final StringBuilder tape = new StringBuilder();
    private final List<Integer> trace = new ArrayList<>();
    private World world = null;
    private int latestFault = 0;
    private int status = 0;

    long call(String name, int... a) {
        switch (name) {
            case "row": return row(a[0], a[1], a[2]);
            case "set": return set(a[0], a[1], a[2]);
            case "copy": return copy(a[0], a[1], a[2], a[3], a[4]);
            case "drop": return drop(a[0]);
            case "feed": return feed(a[0]);
            case "land": return land();
            case "fault": return latestFault;
            case "undo": return undo();
            case "putBack": return putBack(a[0]);
            case "send": return send(a[0], a[1]);
            case "thing": return thing(a[0], a[1]);
            case "ahead": return !has(a[0]) || a[1] < 0 || a[1] > 60 ? BAD : world.behind(a[1]).is().get(a[0]);
            case "cheapest": return cheapest(a[0], a[1], a[2]);
            case "seldom": return seldom(a[0], a[1]);
            case "who": return who(a[0], a[1], a[2], a[3]);
            case "odds": return odds(a[0], a[1], a[2], a[3]);
            case "image": return image(a[0]);
            case "restore": return restore(a[0]);
            case "kind": return has(a[0]) ? kindOf(a[0]) : BAD;
            case "as": return as(a[0], a[1]);
            case "ask": return ask(a[0], a[1]);
            case "trace": return a[0] >= 0 && a[0] < trace.size() ? trace.get(a[0]) : NONE;
            case "count": return count(a[0]);
            case "status": return status;
            default: return world == null ? STATE : callOnLand(name, a);
        }
    }

    private long callOnLand(String name, int... a) {
        switch (name) {
            case "days": return days(a[0]);
            case "allow": return allow(a[0]);
            case "holds": return holds(a[0]);
            case "offAhead": return a[0] < 0 || a[0] > 60 ? BAD : world.behind(a[0]).allOff();
            case "lost": return lost(a[0]);
            case "match": return match(a[0]);
            case "gain": return gain(a[0]);
            case "round": return round();
            case "stealth": return stealth(a[0], a[1], a[2]);
            case "leastMay": return leastMay(a[0]);
            case "store": return store(a[0]);
            case "drawn": return drawn(a[0], a[1], a[2]);
            default: throw new IllegalArgumentException(name);
        }
    }

    private boolean has(int t) {
        return world != null && t >= 0 && t < world.things().size();
    }

    private int kindOf(int t) {
        return " gfspw".indexOf(world.things().get(t).sort());
    }

    private int finding(int number) {
        status = number;
        return -1000010 - number;
    }

    private int clean(int answer) {
        status = 0;
        return answer;
    }

    private static boolean noRow(int row) {
        return row < 0 || row > 7;
    }

    private static boolean beyond(Row row, int i, int n) {
        return i < 0 || n < 0 || (long) i + n > row.items().size();
    }

    private int row(int row, int lane, int n) {
        if (noRow(row) || lane < 0 || lane > 2 || n > 40) {
            return BAD;
        }
        if (n < 0) {
            return finding(4);
        }
        rows.put(row, new Row(lane, new ArrayList<>(Collections.nCopies(n, 0))));
        return clean(n);
    }

    private int set(int row, int i, int v) {
        if (noRow(row)) {
            return BAD;
        }
        Row r = rows.get(row);
        if (r == null) {
            return finding(1);
        }
        if (beyond(r, i, 1)) {
            return finding(2);
        }
        int shift = r.lane() == 0 ? 24 : r.lane() == 1 ? 16 : 0;
        r.items().set(i, v << shift >> shift);
        return clean(r.items().get(i));
    }

    private int copy(int a, int i, int b, int j, int n) {
        if (noRow(a) || noRow(b)) {
            return BAD;
        }
        Row from = rows.get(a);
        Row to = rows.get(b);
        if (from == null || to == null) {
            return finding(1);
        }
        if (from.lane() != to.lane()) {
            return finding(5);
        }
        if (beyond(from, i, n) || beyond(to, j, n)) {
            return finding(2);
        }
        List<Integer> ahead = new ArrayList<>(from.items().subList(i, i + n));
        for (int k = 0; k < n; k++) {
            to.items().set(j + k, ahead.get(k));
        }
        return clean(n);
    }

    private int drop(int row) {
        if (noRow(row)) {
            return BAD;
        }
        Row gone = rows.remove(row);
        return gone == null ? finding(1) : clean(gone.items().size());
    }

    private int feed(int letter) {
        if (letter < 0 || letter > 255) {
            return BAD;
        }
        if (tape.length() == 100) {
            return FULL;
        }
        tape.append((char) letter);
        return tape.length();
    }

    /** Types: a letter as it is, 9 a number, the signs as they are, ! what is no token, . the end. */
    private static List<Token> tokens(String text) {
        List<Token> all = new ArrayList<>();
        int at = 0;
        while (at < text.length()) {
            int end = at;
            while (end < text.length() && text.charAt(end) >= '0' && text.charAt(end) <= '9') {
                end++;
            }
            char c = text.charAt(at);
            if (end - at > 2) {
                all.add(new Token('!', 0, at));
            } else if (end > at) {
                all.add(new Token('9', Integer.parseInt(text.substring(at, end)), at));
            } else {
                all.add(new Token(c >= 'a' && c <= 'z' || c == ',' || c == ';' ? c : '!', 0, at));
            }
            at = Math.max(end, at + 1);
        }
        all.add(new Token('.', 0, text.length()));
        return all;
    }

    private int land() {
        List<Token> all = tokens(tape.toString());
        tape.setLength(0);
        int[] least = {0, 0, 0, 1, 1, 0};
        int[] most = {9, 20, 60, 9, 9, 1};
        List<Integer> numbers = new ArrayList<>();
        StringBuilder sorts = new StringBuilder();
        int at = 0;
        String wanted = "e9,9;";
        int which = 0;
        while (true) {
            for (int w = 0; w < wanted.length(); w++, at++) {
                Token token = all.get(at);
                char want = wanted.charAt(w);
                boolean sort = "gfspw".indexOf(token.type()) >= 0;
                if (want == 'S' ? !sort : token.type() != want) {
                    return fault(1, token);
                }
                if (want == 'S' && sorts.length() == 6) {
                    return fault(3, token);
                }
                if (want == 'S') {
                    sorts.append(token.type());
                }
                if (want == '9') {
                    if (token.value() < least[which] || token.value() > most[which]) {
                        return fault(2, token);
                    }
                    numbers.add(token.value());
                    which = which == 5 ? 2 : which + 1;
                }
            }
            if (sorts.length() > 0 && all.get(at).type() == '.') {
                break;
            }
            wanted = "S9,9,9,9;";
        }
        List<Thing> things = new ArrayList<>();
        List<Integer> is = new ArrayList<>();
        for (int t = 0; t < sorts.length(); t++) {
            int n = 2 + 4 * t;
            things.add(new Thing(sorts.charAt(t), numbers.get(n), numbers.get(n + 1), numbers.get(n + 2), numbers.get(n + 3)));
            is.add(numbers.get(n));
        }
        world = new World(things, is, numbers.get(0), numbers.get(1), 0, 0);
        acts.clear();
        return things.size();
    }

    private int fault(int number, Token token) {
        latestFault = number;
        return -1000100 - token.place();
    }

    private void act(World then) {
        acts.push(world);
        if (acts.size() > 24) {
            acts.removeLast();
        }
        world = then;
    }

    private int undo() {
        if (acts.isEmpty()) {
            return STATE;
        }
        world = acts.pop();
        return acts.size();
    }

    private int days(int n) {
        if (n < 1 || n > 24) {
            return BAD;
        }
        if (world.day() + n > 999) {
            return FULL;
        }
        for (int d = 0; d < n; d++) {
            act(world.tomorrow(-1));
        }
        return world.allOff();
    }

    private int putBack(int t) {
        if (!has(t)) {
            return BAD;
        }
        if (world.things().get(t).person() || world.off(t) == 0) {
            return STATE;
        }
        int cost = world.toPutBack(t);
        act(world.with(t, world.things().get(t).was()).paying(cost));
        return cost;
    }

    private int send(int t, int o) {
        if (!has(t) || !has(o) || t == o) {
            return BAD;
        }
        if (!world.things().get(t).person() || !world.things().get(o).person()) {
            return STATE;
        }
        act(world.with(t, world.is().get(o)).with(o, world.is().get(t)).paying(world.fee()));
        return world.off(t) + world.off(o);
    }

    private int allow(int may) {
        if (may < 0 || may > 9) {
            return BAD;
        }
        int before = world.may();
        act(world.allowing(may));
        return before;
    }

    private int thing(int t, int what) {
        if (!has(t) || what < 0 || what > 7) {
            return BAD;
        }
        Thing thing = world.things().get(t);
        int[] answers = {world.is().get(t), thing.was(), thing.by(), thing.price(), thing.side(), world.off(t),
            world.alike(t) ? 1 : 0, thing.person() ? NONE : world.toPutBack(t)};
        return answers[what];
    }

    private int holds(int what) {
        if (what < 0 || what > 4) {
            return BAD;
        }
        int alike = 0;
        for (int t = 0; t < world.things().size(); t++) {
            alike += world.alike(t) ? 1 << t : 0;
        }
        return new int[] {world.cost(), world.may(), world.fee(), world.allOff(), alike}[what];
    }

    private int lost(int what) {
        if (what < 0 || what > 1) {
            return BAD;
        }
        for (int d = 1; d <= 60; d++) {
            World then = world.behind(d);
            for (int t = 0; t < then.things().size(); t++) {
                if (then.things().get(t).person() && !then.alike(t)) {
                    return what == 0 ? d : t;
                }
            }
        }
        return NONE;
    }

    private int cheapest(int t, int n, int what) {
        if (!has(t) || n < 1 || n > 24 || what < 0 || what > 1) {
            return BAD;
        }
        if (world.things().get(t).person()) {
            return STATE;
        }
        long best = n <= 10 ? cheapestOfAll(t, n) : cheapestByWhatItIs(t, n);
        return (int) (what == 0 ? best >> 24 : best & (1 << 24) - 1);
    }

    /** The cost, and the bits in its lowest 24. */
    private long cheapestOfAll(int t, int n) {
        Thing thing = world.things().get(t);
        long best = Long.MAX_VALUE;
        for (int bits = 0; bits < 1 << n; bits++) {
            int is = world.is().get(t);
            long cost = 0;
            boolean alike = true;
            for (int d = 0; d < n; d++) {
                is = thing.next(is, world.day() + d);
                if ((bits >> d & 1) == 1) {
                    cost += thing.price() * thing.off(is) + world.fee();
                    is = thing.was();
                }
                alike &= thing.off(is) <= world.may();
            }
            if (alike) {
                best = Math.min(best, cost << 24 | bits);
            }
        }
        return best;
    }

    private long cheapestByWhatItIs(int t, int n) {
        Thing thing = world.things().get(t);
        Map<Integer, Long> best = new TreeMap<>(Map.of(world.is().get(t), 0L));
        for (int d = 0; d < n; d++) {
            Map<Integer, Long> then = new TreeMap<>();
            for (Map.Entry<Integer, Long> one : best.entrySet()) {
                int is = thing.next(one.getKey(), world.day() + d);
                long cost = thing.price() * thing.off(is) + world.fee();
                then.merge(thing.was(), one.getValue() + (cost << 24) + (1L << d), Math::min);
                if (thing.off(is) <= world.may()) {
                    then.merge(is, one.getValue(), Math::min);
                }
            }
            best = then;
        }
        return Collections.min(best.values());
    }

    private int match(int k) {
        if (k != -1 && !has(k)) {
            return BAD;
        }
        List<Integer> people = new ArrayList<>();
        for (int t = 0; t < world.things().size(); t++) {
            if (world.things().get(t).person()) {
                people.add(t);
            }
        }
        List<List<Integer>> orders = new ArrayList<>();
        order(people, new ArrayList<>(), orders);
        int least = Integer.MAX_VALUE;
        List<Integer> first = null;
        for (List<Integer> order : orders) {
            int off = 0;
            for (int p = 0; p < people.size(); p++) {
                off += world.things().get(order.get(p)).off(world.is().get(people.get(p)));
            }
            if (off < least) {
                least = off;
                first = order;
            }
        }
        if (k == -1) {
            return least;
        }
        return people.contains(k) ? first.get(people.indexOf(k)) : k;
    }

    private static void order(List<Integer> all, List<Integer> begun, List<List<Integer>> orders) {
        if (begun.size() == all.size()) {
            orders.add(new ArrayList<>(begun));
        }
        for (Integer one : all) {
            if (!begun.contains(one)) {
                begun.add(one);
                order(all, begun, orders);
                begun.remove(one);
            }
        }
    }

    private int gain(int side) {
        if (side < 0 || side > 1) {
            return BAD;
        }
        int sum = 10000;
        for (int t = 0; t < world.things().size(); t++) {
            if (world.things().get(t).side() == side) {
                sum += world.is().get(t) - world.things().get(t).was();
            }
        }
        return sum;
    }

    private int seldom(int t, int m) {
        if (!has(t) || m < 1 || m > 60) {
            return BAD;
        }
        Thing thing = world.things().get(t);
        int most = NONE;
        for (int k = 1; k <= 30; k++) {
            int is = thing.was();
            int worst = 0;
            for (int d = 1; d <= 60; d++) {
                is = thing.next(is, world.day() + d - 1);
                worst = Math.max(worst, thing.off(is));
                is = d % k == 0 ? thing.was() : is;
            }
            most = worst <= m ? k : most;
        }
        return most;
    }

    private int round() {
        for (int n = 14; n <= 100; n += 14) {
            boolean whole = true;
            for (Thing thing : world.things()) {
                whole &= !thing.person() || n % thing.by() == 0;
            }
            if (whole && world.behind(n).is().equals(world.is())) {
                return n;
            }
        }
        return NONE;
    }

    private int stealth(int row, int i, int n) {
        if (noRow(row) || n < 1 || n > 12) {
            return BAD;
        }
        Row r = rows.get(row);
        if (r == null) {
            return finding(1);
        }
        if (beyond(r, i, n)) {
            return finding(2);
        }
        int bits = 0;
        for (int hasty = -1; hasty < world.things().size(); hasty++) {
            List<Integer> off = new ArrayList<>();
            World then = world;
            for (int d = 0; d < n; d++) {
                then = then.tomorrow(hasty);
                off.add(then.allOff());
            }
            if (off.equals(r.items().subList(i, i + n))) {
                bits += hasty < 0 ? 64 : 1 << hasty;
            }
        }
        return clean(bits);
    }

    private int who(int t, int row, int i, int n) {
        if (!has(t) || noRow(row) || n < 1 || n > 12) {
            return BAD;
        }
        Row r = rows.get(row);
        if (r == null) {
            return finding(1);
        }
        if (beyond(r, i, n)) {
            return finding(2);
        }
        int bits = 0;
        for (int kind = 1; kind <= 5; kind++) {
            Thing other = world.things().get(t).ofSort(" gfspw".charAt(kind));
            List<Integer> would = new ArrayList<>();
            int is = world.is().get(t);
            for (int d = 0; d < n; d++) {
                is = other.next(is, world.day() + d);
                would.add(is);
            }
            bits += would.equals(r.items().subList(i, i + n)) ? 1 << kind : 0;
        }
        return clean(bits);
    }

    private int leastMay(int n) {
        if (n < 0 || n > 60) {
            return BAD;
        }
        for (int may = 0; ; may++) {
            boolean all = true;
            for (int d = 0; d <= n && all; d++) {
                World then = world.behind(d).allowing(may);
                for (int t = 0; t < then.things().size(); t++) {
                    all &= then.alike(t);
                }
            }
            if (all) {
                return may;
            }
        }
    }

    private long odds(int t, int p, int n, int what) {
        if (!has(t) || p < 0 || p > 10 || n < 0 || n > 9 || what < 0 || what > 1) {
            return BAD;
        }
        Thing thing = world.things().get(t);
        if (thing.sort() != 'g' && thing.sort() != 'f') {
            return STATE;
        }
        BigInteger above = BigInteger.ZERO;
        for (int days = 0; days < 1 << n; days++) {
            BigInteger cases = BigInteger.ONE;
            int is = world.is().get(t);
            for (int d = 0; d < n; d++) {
                boolean changes = (days >> d & 1) == 1;
                cases = cases.multiply(BigInteger.valueOf(changes ? p : 10 - p));
                is = changes ? thing.next(is, world.day() + d) : is;
            }
            above = thing.off(is) <= world.may() ? above.add(cases) : above;
        }
        BigInteger below = BigInteger.TEN.pow(n);
        return (what == 0 ? above : below).divide(above.gcd(below)).longValueExact();
    }

    private int store(int n) {
        if (n < 1 || n > 60) {
            return BAD;
        }
        int sum = 0;
        for (int t = 0; t < world.things().size(); t++) {
            Thing thing = world.things().get(t);
            int is = world.is().get(t);
            for (int d = 0; d < n && thing.sort() == 'f'; d++) {
                is = thing.next(is, world.day() + d);
                if (thing.off(is) > world.may()) {
                    sum += thing.price() * thing.off(is);
                    is = thing.was();
                }
            }
        }
        return sum;
    }

    private int drawn(int n, int seed, int what) {
        if (n < 0 || n > 60 || seed < 1 || seed > 999999 || what < 0 || what > 1) {
            return BAD;
        }
        BigInteger x = BigInteger.valueOf(seed);
        World then = world.paying(-world.cost());
        for (int d = 0; d < n; d++) {
            x = x.multiply(BigInteger.valueOf(16807)).mod(BigInteger.valueOf(2147483647));
            int t = x.mod(BigInteger.valueOf(then.things().size())).intValue();
            if (!then.things().get(t).person() && then.off(t) > 0) {
                then = then.paying(then.toPutBack(t)).with(t, then.things().get(t).was());
            }
            then = then.tomorrow(-1);
        }
        return what == 0 ? then.cost() : then.allOff();
    }

    private int image(int k) {
        if (k < 0 || k > 1) {
            return BAD;
        }
        if (world == null) {
            return STATE;
        }
        images.put(k, world);
        return 1;
    }

    private int restore(int k) {
        if (k < 0 || k > 1) {
            return BAD;
        }
        if (!images.containsKey(k)) {
            return STATE;
        }
        world = images.get(k);
        acts.clear();
        return 1;
    }

    /** The kinds as classes of Java: it is asked as Java asks. */
    private static class AnyThing {
        final int number;
        final int is;
        final int by;
        final List<Integer> trace;

        AnyThing(int number, int is, int by, List<Integer> trace) {
            this.number = number;
            this.is = is;
            this.by = by;
            this.trace = trace;
        }

        int size() {
            trace.add(10);
            return by;
        }

        int mark() {
            trace.add(20);
            return number;
        }
    }

    private static class Growing extends AnyThing {
        Growing(int number, int is, int by, List<Integer> trace) {
            super(number, is, by, trace);
        }

        @Override int size() {
            trace.add(11);
            return super.size() + mark();
        }

        @Override int mark() {
            trace.add(21);
            return super.mark() + is;
        }
    }

    private static final class Falling extends Growing {
        Falling(int number, int is, int by, List<Integer> trace) {
            super(number, is, by, trace);
        }

        @Override int size() {
            trace.add(12);
            return -super.size();
        }

        @Override int mark() {
            trace.add(24);
            return 2 * super.mark();
        }
    }

    private static final class Season extends Growing {
        Season(int number, int is, int by, List<Integer> trace) {
            super(number, is, by, trace);
        }

        @Override int mark() {
            trace.add(22);
            return super.mark() - 1000;
        }
    }

    private static class Person extends AnyThing {
        Person(int number, int is, int by, List<Integer> trace) {
            super(number, is, by, trace);
        }

        @Override int size() {
            trace.add(13);
            return super.size() - 100;
        }

        @Override int mark() {
            trace.add(23);
            return super.mark() - size();
        }
    }

    private static final class Widow extends Person {
        Widow(int number, int is, int by, List<Integer> trace) {
            super(number, is, by, trace);
        }

        @Override int size() {
            trace.add(14);
            return 2 * super.size();
        }
    }

    private AnyThing asked(int t, List<Integer> leaves) {
        int is = world.is().get(t);
        int by = world.things().get(t).by();
        switch (kindOf(t)) {
            case 1: return new Growing(t, is, by, leaves);
            case 2: return new Falling(t, is, by, leaves);
            case 3: return new Season(t, is, by, leaves);
            case 4: return new Person(t, is, by, leaves);
            default: return new Widow(t, is, by, leaves);
        }
    }

    private int as(int t, int kind) {
        if (!has(t) || kind < 0 || kind > 5) {
            return BAD;
        }
        List<Class<? extends AnyThing>> kinds = List.of(AnyThing.class, Growing.class, Falling.class, Season.class,
            Person.class, Widow.class);
        return kinds.get(kind).isInstance(asked(t, new ArrayList<>())) ? clean(t) : finding(3);
    }

    private int ask(int t, int what) {
        if (!has(t) || what < 0 || what > 1) {
            return BAD;
        }
        trace.clear();
        return what == 0 ? asked(t, trace).size() : asked(t, trace).mark();
    }

    private int count(int what) {
        boolean no = world == null;
        switch (what) {
            case 0: return rows.size();
            case 1: return no ? 0 : world.things().size();
            case 2: return no ? 0 : world.day();
            case 3: return no ? 0 : world.cost();
            case 4: return acts.size();
            case 5: return tape.length();
            default: return BAD;
        }
    }
}
