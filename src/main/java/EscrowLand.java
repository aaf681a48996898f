/**
 * A kingdom in escrow, as ../shared/DOC.md promises it. The numbers and the words in capitals are the document's.
 *
 * All that a call needs is made by the constructors, so that no call makes an object or an array.
 */
public final class EscrowLand {
    public static final int NONE = -1000000, BAD = -1000001, STATE = -1000002, FULL = -1000003;

    private static final int FOUND = -1000010, FAULTY = -1000100;
    private static final int NULL = 1, PLACE = 2, KIND = 3, SIZE = 4, STORE = 5;

    private static final int BYTES = 0, SHORTS = 1, INTS = 2;
    private static final int MOST_ROWS = 8, MOST_ITEMS = 40, MOST_BYTES = 100;
    private static final int MOST_THINGS = 6, MOST_ACTS = 24;

    private static final int ANY_KIND = 0, GROWING = 1, FALLING = 2, SEASON = 3, PERSON = 4, WIDOW = 5;

    private static final int LAST_DAY = 999, MOST_IS = 99, MOST_MAY = 9, MOST_SEED = 999999;
    private static final int MOST_DAYS = 24, MOST_AHEAD = 60, MOST_TOLD = 12, MOST_ODDS_DAYS = 9;
    private static final int MOST_SELDOM = 30, MOST_ROUND = 100, TENTHS = 10;

    private final Rows rows = new Rows();
    private final Tape tape = new Tape();
    private final Land land = new Land();
    private final Land firstImage = new Land();
    private final Land secondImage = new Land();
    private final Acts acts = new Acts();
    private final Foretold foretold = new Foretold(land);
    private final Asks asks = new Asks(land);
    private int finding = 0;

    public EscrowLand() {
    }

    // ---- rows

    public int row(int row, int lane, int n) {
        if (!isRow(row) || !isWithin(lane, BYTES, INTS) || n > MOST_ITEMS) {
            return BAD;
        }
        if (n < 0) {
            return found(SIZE);
        }
        rows.make(row, lane, n);
        return foundNothing(n);
    }

    public int set(int row, int i, int v) {
        if (!isRow(row)) {
            return BAD;
        }
        int flaw = rows.findingAt(row, i, 1);
        return flaw != 0 ? found(flaw) : foundNothing(rows.write(row, i, v));
    }

    public int copy(int a, int i, int b, int j, int n) {
        if (!isRow(a) || !isRow(b)) {
            return BAD;
        }
        if (rows.isMissing(a) || rows.isMissing(b)) {
            return found(NULL);
        }
        if (rows.laneOf(a) != rows.laneOf(b)) {
            return found(STORE);
        }
        if (!rows.hasPlaces(a, i, n) || !rows.hasPlaces(b, j, n)) {
            return found(PLACE);
        }
        rows.move(a, i, b, j, n);
        return foundNothing(n);
    }

    public int drop(int row) {
        if (!isRow(row)) {
            return BAD;
        }
        return rows.isMissing(row) ? found(NULL) : foundNothing(rows.remove(row));
    }

    // ---- what is told

    public int feed(int letter) {
        if (!isWithin(letter, 0, 255)) {
            return BAD;
        }
        return tape.isFull() ? FULL : tape.add(letter);
    }

    public int land() {
        int place = tape.readInto(land);
        if (place != NONE) {
            return FAULTY - place;
        }
        acts.forget();
        return land.things;
    }

    public int fault() {
        return tape.latestFault;
    }

    public int undo() {
        return acts.many == 0 ? STATE : acts.takeBack(land);
    }

    // ---- what is done

    public int days(int n) {
        if (land.things == 0) {
            return STATE;
        }
        if (!isWithin(n, 1, MOST_DAYS)) {
            return BAD;
        }
        if (land.day + n > LAST_DAY) {
            return FULL;
        }
        for (int d = 0; d < n; d++) {
            acts.keep(land);
            land.passDay();
        }
        return land.allOff();
    }

    public int putBack(int thing) {
        if (!land.has(thing)) {
            return BAD;
        }
        if (land.isPersonAt(thing) || land.offOf(thing) == 0) {
            return STATE;
        }
        acts.keep(land);
        int price = land.costToPutBack(thing, land.is[thing]);
        land.is[thing] = land.was[thing];
        land.cost += price;
        return price;
    }

    public int send(int thing, int other) {
        if (!land.has(thing) || !land.has(other) || thing == other) {
            return BAD;
        }
        if (!land.isPersonAt(thing) || !land.isPersonAt(other)) {
            return STATE;
        }
        acts.keep(land);
        int is = land.is[thing];
        land.is[thing] = land.is[other];
        land.is[other] = is;
        land.cost += land.fee;
        return land.offOf(thing) + land.offOf(other);
    }

    public int allow(int may) {
        if (land.things == 0) {
            return STATE;
        }
        if (!isWithin(may, 0, MOST_MAY)) {
            return BAD;
        }
        acts.keep(land);
        int before = land.may;
        land.may = may;
        return before;
    }

    public int thing(int thing, int what) {
        if (!land.has(thing)) {
            return BAD;
        }
        switch (what) {
            case 0: return land.is[thing];
            case 1: return land.was[thing];
            case 2: return land.by[thing];
            case 3: return land.price[thing];
            case 4: return land.side[thing];
            case 5: return land.offOf(thing);
            case 6: return land.offOf(thing) <= land.may ? 1 : 0;
            case 7: return land.isPersonAt(thing) ? NONE : land.costToPutBack(thing, land.is[thing]);
            default: return BAD;
        }
    }

    public int holds(int what) {
        if (land.things == 0) {
            return STATE;
        }
        switch (what) {
            case 0: return land.cost;
            case 1: return land.may;
            case 2: return land.fee;
            case 3: return land.allOff();
            case 4: return land.alikeBits();
            default: return BAD;
        }
    }

    // ---- foretold

    public int ahead(int thing, int n) {
        if (!land.has(thing) || !isWithin(n, 0, MOST_AHEAD)) {
            return BAD;
        }
        return foretold.isBehind(thing, n);
    }

    public int offAhead(int n) {
        if (land.things == 0) {
            return STATE;
        }
        return isWithin(n, 0, MOST_AHEAD) ? foretold.allOffBehind(n) : BAD;
    }

    public int lost(int what) {
        if (land.things == 0) {
            return STATE;
        }
        return isWithin(what, 0, 1) ? foretold.firstLost(what == 1) : BAD;
    }

    public int cheapest(int thing, int n, int what) {
        if (!land.has(thing) || !isWithin(n, 1, MOST_DAYS) || !isWithin(what, 0, 1)) {
            return BAD;
        }
        if (land.isPersonAt(thing)) {
            return STATE;
        }
        foretold.planPutBacks(thing, n);
        return what == 0 ? foretold.leastCost : foretold.leastBits;
    }

    public int match(int k) {
        if (land.things == 0) {
            return STATE;
        }
        if (k != -1 && !land.has(k)) {
            return BAD;
        }
        foretold.planPlaces();
        return k == -1 ? foretold.leastOff : foretold.bestPlace[k];
    }

    public int gain(int side) {
        if (land.things == 0) {
            return STATE;
        }
        return isWithin(side, 0, 1) ? land.gainOf(side) : BAD;
    }

    public int seldom(int thing, int m) {
        if (!land.has(thing) || !isWithin(m, 1, MOST_AHEAD)) {
            return BAD;
        }
        return foretold.mostDaysUnseen(thing, m);
    }

    public int round() {
        return land.things == 0 ? STATE : foretold.firstReturn();
    }

    public int stealth(int row, int i, int n) {
        if (land.things == 0) {
            return STATE;
        }
        if (!isRow(row) || !isWithin(n, 1, MOST_TOLD)) {
            return BAD;
        }
        int flaw = rows.findingAt(row, i, n);
        return flaw != 0 ? found(flaw) : foundNothing(foretold.hasteBits(rows, row, i, n));
    }

    public int who(int thing, int row, int i, int n) {
        if (!land.has(thing) || !isRow(row) || !isWithin(n, 1, MOST_TOLD)) {
            return BAD;
        }
        int flaw = rows.findingAt(row, i, n);
        return flaw != 0 ? found(flaw) : foundNothing(foretold.kindBits(thing, rows, row, i, n));
    }

    public int leastMay(int n) {
        if (land.things == 0) {
            return STATE;
        }
        return isWithin(n, 0, MOST_AHEAD) ? foretold.mostOff(n) : BAD;
    }

    public long odds(int thing, int p, int n, int what) {
        if (!land.has(thing) || !isWithin(p, 0, TENTHS) || !isWithin(n, 0, MOST_ODDS_DAYS) || !isWithin(what, 0, 1)) {
            return BAD;
        }
        if (land.kind[thing] != GROWING && land.kind[thing] != FALLING) {
            return STATE;
        }
        return foretold.fractionAlike(thing, p, n, what == 1);
    }

    public int store(int n) {
        if (land.things == 0) {
            return STATE;
        }
        return isWithin(n, 1, MOST_AHEAD) ? foretold.pricesOfLeaves(n) : BAD;
    }

    public int drawn(int n, int seed, int what) {
        if (land.things == 0) {
            return STATE;
        }
        if (!isWithin(n, 0, MOST_AHEAD) || !isWithin(seed, 1, MOST_SEED) || !isWithin(what, 0, 1)) {
            return BAD;
        }
        int cost = foretold.costByDraws(n, seed);
        return what == 0 ? cost : foretold.allOff();
    }

    public int image(int k) {
        if (!isWithin(k, 0, 1)) {
            return BAD;
        }
        if (land.things == 0) {
            return STATE;
        }
        imageNumbered(k).takeAll(land);
        return 1;
    }

    public int restore(int k) {
        if (!isWithin(k, 0, 1)) {
            return BAD;
        }
        if (imageNumbered(k).things == 0) {
            return STATE;
        }
        land.takeAll(imageNumbered(k));
        acts.forget();
        return 1;
    }

    // ---- asked

    public int kind(int one) {
        return land.has(one) ? land.kind[one] : BAD;
    }

    public int as(int one, int kind) {
        if (!land.has(one) || !isWithin(kind, ANY_KIND, WIDOW)) {
            return BAD;
        }
        return Asks.isKindToo(land.kind[one], kind) ? foundNothing(one) : found(KIND);
    }

    public int ask(int one, int what) {
        if (!land.has(one) || !isWithin(what, 0, 1)) {
            return BAD;
        }
        return asks.answer(one, what);
    }

    public int trace(int i) {
        return asks.traced(i);
    }

    public int count(int what) {
        switch (what) {
            case 0: return rows.howMany();
            case 1: return land.things;
            case 2: return land.day;
            case 3: return land.cost;
            case 4: return acts.many;
            case 5: return tape.length;
            default: return BAD;
        }
    }

    public int status() {
        return finding;
    }

    // ---- what the calls share

    private int found(int number) {
        finding = number;
        return FOUND - number;
    }

    private int foundNothing(int answer) {
        finding = 0;
        return answer;
    }

    private Land imageNumbered(int k) {
        return k == 0 ? firstImage : secondImage;
    }

    private static boolean isWithin(int n, int least, int most) {
        return n >= least && n <= most;
    }

    private static boolean isRow(int row) {
        return isWithin(row, 0, MOST_ROWS - 1);
    }

    private static final class Rows {
        private static final int MISSING = -1;

        private final int[] lane = new int[MOST_ROWS];
        private final int[] size = new int[MOST_ROWS];
        // One array for all the rows: an object is made once, and overlapping copies within it are safe.
        private final int[] items = new int[MOST_ROWS * MOST_ITEMS];

        Rows() {
            for (int row = 0; row < MOST_ROWS; row++) {
                size[row] = MISSING;
            }
        }

        boolean isMissing(int row) {
            return size[row] == MISSING;
        }

        int laneOf(int row) {
            return lane[row];
        }

        int howMany() {
            int many = 0;
            for (int row = 0; row < MOST_ROWS; row++) {
                many += isMissing(row) ? 0 : 1;
            }
            return many;
        }

        void make(int row, int newLane, int n) {
            lane[row] = newLane;
            size[row] = n;
            for (int i = 0; i < n; i++) {
                items[row * MOST_ITEMS + i] = 0;
            }
        }

        int remove(int row) {
            int had = size[row];
            size[row] = MISSING;
            return had;
        }

        /** The size is taken away from, not added to, since i + n may be beyond an int. */
        boolean hasPlaces(int row, int i, int n) {
            return i >= 0 && n >= 0 && i <= size[row] && n <= size[row] - i;
        }

        int findingAt(int row, int i, int n) {
            if (isMissing(row)) {
                return NULL;
            }
            return hasPlaces(row, i, n) ? 0 : PLACE;
        }

        int read(int row, int i) {
            return items[row * MOST_ITEMS + i];
        }

        int write(int row, int i, int v) {
            int item = inLane(lane[row], v);
            items[row * MOST_ITEMS + i] = item;
            return item;
        }

        void move(int a, int i, int b, int j, int n) {
            System.arraycopy(items, a * MOST_ITEMS + i, items, b * MOST_ITEMS + j, n);
        }

        private static int inLane(int lane, int v) {
            switch (lane) {
                case BYTES: return (byte) v;
                case SHORTS: return (short) v;
                default: return v;
            }
        }
    }

    private static final class Tape {
        private static final int CANNOT_STAND = 1, NOT_AS_TOLD = 2, NO_ROOM = 3;
        private static final int MOST_FEE = 20, MOST_WAS = 60, MOST_BY = 9, MOST_PRICE = 9;

        private final int[] bytes = new int[MOST_BYTES];
        // Read aside, since a text with a fault leaves the land as it was.
        private final Land draft = new Land();
        private int length = 0;
        private int latestFault = 0;
        private int at = 0;
        private int faultPlace = NONE;

        boolean isFull() {
            return length >= MOST_BYTES;
        }

        int add(int letter) {
            bytes[length] = letter;
            length++;
            return length;
        }

        /** The place of the first fault, or NONE. */
        int readInto(Land land) {
            at = 0;
            faultPlace = NONE;
            readLaw();
            readThings();
            length = 0;
            if (faultPlace == NONE) {
                draft.beginAnew();
                land.takeAll(draft);
            }
            return faultPlace;
        }

        private void readLaw() {
            readSign('e');
            draft.may = readNumber(0, MOST_MAY);
            readSign(',');
            draft.fee = readNumber(0, MOST_FEE);
            readSign(';');
        }

        private void readThings() {
            readThing(0);
            draft.things = 1;
            while (goesOn() && draft.things < MOST_THINGS) {
                readThing(draft.things);
                draft.things++;
            }
            if (goesOn()) {
                fail(kindOfSort(next()) == NONE ? CANNOT_STAND : NO_ROOM);
            }
        }

        private void readThing(int thing) {
            draft.kind[thing] = readSort();
            draft.was[thing] = readNumber(0, MOST_WAS);
            readSign(',');
            draft.by[thing] = readNumber(1, MOST_BY);
            readSign(',');
            draft.price[thing] = readNumber(1, MOST_PRICE);
            readSign(',');
            draft.side[thing] = readNumber(0, 1);
            readSign(';');
        }

        private boolean goesOn() {
            return faultPlace == NONE && at < length;
        }

        private int next() {
            return at < length ? bytes[at] : NONE;
        }

        /** Only the first fault counts: what is read behind it is nothing. */
        private void fail(int fault) {
            if (faultPlace == NONE) {
                faultPlace = at;
                latestFault = fault;
            }
        }

        private void readSign(int sign) {
            if (next() == sign) {
                at++;
            } else {
                fail(CANNOT_STAND);
            }
        }

        private int readSort() {
            int kind = kindOfSort(next());
            if (kind == NONE) {
                fail(CANNOT_STAND);
            } else {
                at++;
            }
            return kind;
        }

        private int readNumber(int least, int most) {
            int figures = 0;
            int number = 0;
            // Three figures tell that the run is too long, however long it is.
            while (figures < 3 && isFigureAt(at + figures)) {
                number = number * 10 + bytes[at + figures] - '0';
                figures++;
            }
            if (figures < 1 || figures > 2) {
                fail(CANNOT_STAND);
            } else if (!isWithin(number, least, most)) {
                fail(NOT_AS_TOLD);
            } else {
                at += figures;
            }
            return number;
        }

        private boolean isFigureAt(int place) {
            return place < length && isWithin(bytes[place], '0', '9');
        }

        private static int kindOfSort(int letter) {
            switch (letter) {
                case 'g': return GROWING;
                case 'f': return FALLING;
                case 's': return SEASON;
                case 'p': return PERSON;
                case 'w': return WIDOW;
                default: return NONE;
            }
        }
    }

    /** No things: no LAND. */
    private static final class Land {
        private int things = 0;
        private int may = 0;
        private int fee = 0;
        private int day = 0;
        private int cost = 0;
        private final int[] kind = new int[MOST_THINGS];
        private final int[] was = new int[MOST_THINGS];
        private final int[] by = new int[MOST_THINGS];
        private final int[] price = new int[MOST_THINGS];
        private final int[] side = new int[MOST_THINGS];
        private final int[] is = new int[MOST_THINGS];

        void takeAll(Land other) {
            things = other.things;
            may = other.may;
            fee = other.fee;
            day = other.day;
            cost = other.cost;
            for (int t = 0; t < MOST_THINGS; t++) {
                kind[t] = other.kind[t];
                was[t] = other.was[t];
                by[t] = other.by[t];
                price[t] = other.price[t];
                side[t] = other.side[t];
                is[t] = other.is[t];
            }
        }

        void beginAnew() {
            day = 0;
            cost = 0;
            for (int t = 0; t < MOST_THINGS; t++) {
                is[t] = was[t];
            }
        }

        boolean has(int thing) {
            return isWithin(thing, 0, things - 1);
        }

        boolean isPersonAt(int thing) {
            return kind[thing] == PERSON || kind[thing] == WIDOW;
        }

        int offIf(int thing, int itIs) {
            return Math.abs(itIs - was[thing]);
        }

        int offOf(int thing) {
            return offIf(thing, is[thing]);
        }

        int allOff() {
            int off = 0;
            for (int t = 0; t < things; t++) {
                off += offOf(t);
            }
            return off;
        }

        int alikeBits() {
            int bits = 0;
            for (int t = 0; t < things; t++) {
                bits |= offOf(t) <= may ? 1 << t : 0;
            }
            return bits;
        }

        int gainOf(int aSide) {
            int gained = 10000;
            for (int t = 0; t < things; t++) {
                gained += side[t] == aSide ? is[t] - was[t] : 0;
            }
            return gained;
        }

        int costToPutBack(int thing, int itIs) {
            return price[thing] * offIf(thing, itIs) + fee;
        }

        void passDay() {
            for (int t = 0; t < things; t++) {
                is[t] = dayOn(t, is[t], day);
            }
            day++;
        }

        int dayOn(int thing, int itIs, int onDay) {
            return dayOnAs(kind[thing], thing, itIs, onDay);
        }

        int dayOnAs(int aKind, int thing, int itIs, int onDay) {
            return Math.max(0, Math.min(MOST_IS, itIs + change(aKind, by[thing], onDay)));
        }

        private static int change(int aKind, int aBy, int onDay) {
            int ageing = aBy > 0 && (onDay + 1) % aBy == 0 ? 1 : 0;
            switch (aKind) {
                case GROWING: return aBy;
                case FALLING: return -aBy;
                case SEASON: return onDay % 2 == 0 ? aBy : -aBy;
                case PERSON: return ageing;
                case WIDOW: return (onDay + 1) % 7 == 0 ? -aBy : ageing;
                default: return 0;
            }
        }
    }

    /** What an ACT can change, as it was ahead of each of the latest ACTS: a ring, the oldest of which is written over. */
    private static final class Acts {
        private static final int WIDTH = 3 + MOST_THINGS;

        private final int[] kept = new int[MOST_ACTS * WIDTH];
        private int many = 0;
        private int next = 0;

        void forget() {
            many = 0;
        }

        void keep(Land land) {
            int from = next * WIDTH;
            kept[from] = land.day;
            kept[from + 1] = land.cost;
            kept[from + 2] = land.may;
            for (int t = 0; t < MOST_THINGS; t++) {
                kept[from + 3 + t] = land.is[t];
            }
            next = next + 1 < MOST_ACTS ? next + 1 : 0;
            many = Math.min(many + 1, MOST_ACTS);
        }

        int takeBack(Land land) {
            next = next > 0 ? next - 1 : MOST_ACTS - 1;
            many--;
            int from = next * WIDTH;
            land.day = kept[from];
            land.cost = kept[from + 1];
            land.may = kept[from + 2];
            for (int t = 0; t < MOST_THINGS; t++) {
                land.is[t] = kept[from + 3 + t];
            }
            return many;
        }
    }

    /** Nothing here changes the land: days pass for a copy of what all is. */
    private static final class Foretold {
        private static final int NOBODY = -1, AS_IT_IS = 64, TOO_MUCH = 1000000000;
        private static final int SEASONS_AND_WEEKS = 14;
        private static final long MULTIPLIER = 16807, MODULUS = 2147483647;

        private final Land land;
        private final int[] is = new int[MOST_THINGS];
        private int day = 0;

        private final int[] costSoFar = new int[MOST_DAYS + 1];
        private final int[] bitsSoFar = new int[MOST_DAYS + 1];
        private int leastCost = 0;
        private int leastBits = 0;

        private final int[] place = new int[MOST_THINGS];
        private final int[] bestPlace = new int[MOST_THINGS];
        private int leastOff = 0;

        private final long[] ways = new long[MOST_ODDS_DAYS + 1];

        Foretold(Land land) {
            this.land = land;
        }

        private void beginNow() {
            day = land.day;
            for (int t = 0; t < land.things; t++) {
                is[t] = land.is[t];
            }
        }

        /** The hasty one, if there is one, changes twice. */
        private void passDay(int hasty) {
            for (int t = 0; t < land.things; t++) {
                is[t] = land.dayOn(t, is[t], day);
                if (t == hasty) {
                    is[t] = land.dayOn(t, is[t], day);
                }
            }
            day++;
        }

        int allOff() {
            int off = 0;
            for (int t = 0; t < land.things; t++) {
                off += land.offIf(t, is[t]);
            }
            return off;
        }

        int isBehind(int thing, int n) {
            int itIs = land.is[thing];
            for (int d = 0; d < n; d++) {
                itIs = land.dayOn(thing, itIs, land.day + d);
            }
            return itIs;
        }

        int allOffBehind(int n) {
            beginNow();
            for (int d = 0; d < n; d++) {
                passDay(NOBODY);
            }
            return allOff();
        }

        int firstLost(boolean who) {
            beginNow();
            for (int d = 1; d <= MOST_AHEAD; d++) {
                passDay(NOBODY);
                int person = firstUnlikePerson();
                if (person != NONE) {
                    return who ? person : d;
                }
            }
            return NONE;
        }

        private int firstUnlikePerson() {
            for (int t = 0; t < land.things; t++) {
                if (land.isPersonAt(t) && land.offIf(t, is[t]) > land.may) {
                    return t;
                }
            }
            return NONE;
        }

        /**
         * By the day of the latest putting back (0: none yet), for all that comes later depends on that alone. The
         * days come first to last, and a later one weighs more than all before it: of several ways that meet and
         * cost the same, the one found first has the least bits.
         */
        void planPutBacks(int thing, int n) {
            for (int d = 1; d <= n; d++) {
                costSoFar[d] = TOO_MUCH;
            }
            costSoFar[0] = 0;
            bitsSoFar[0] = 0;
            leastCost = TOO_MUCH;
            for (int d = 0; d <= n; d++) {
                goOnFrom(d, thing, n);
            }
        }

        private void goOnFrom(int latest, int thing, int n) {
            int itIs = latest == 0 ? land.is[thing] : land.was[thing];
            for (int d = latest + 1; d <= n; d++) {
                itIs = land.dayOn(thing, itIs, land.day + d - 1);
                int cost = costSoFar[latest] + land.costToPutBack(thing, itIs);
                if (cost < costSoFar[d]) {
                    costSoFar[d] = cost;
                    bitsSoFar[d] = bitsSoFar[latest] | 1 << (d - 1);
                }
                if (land.offIf(thing, itIs) > land.may) {
                    return;
                }
            }
            if (costSoFar[latest] < leastCost) {
                leastCost = costSoFar[latest];
                leastBits = bitsSoFar[latest];
            }
        }

        void planPlaces() {
            leastOff = TOO_MUCH;
            placeFrom(0, 0, 0);
        }

        /** Tries the places by their numbers, so that of several best ways the first stays. */
        private void placeFrom(int thing, int taken, int off) {
            if (thing >= land.things) {
                keepPlacesIfBest(off);
                return;
            }
            if (!land.isPersonAt(thing)) {
                place[thing] = thing;
                placeFrom(thing + 1, taken, off);
                return;
            }
            for (int t = 0; t < land.things; t++) {
                if (land.isPersonAt(t) && (taken >> t & 1) == 0) {
                    place[thing] = t;
                    placeFrom(thing + 1, taken | 1 << t, off + land.offIf(t, land.is[thing]));
                }
            }
        }

        private void keepPlacesIfBest(int off) {
            if (off < leastOff) {
                leastOff = off;
                for (int t = 0; t < land.things; t++) {
                    bestPlace[t] = place[t];
                }
            }
        }

        /** All are tried, for seasons and widows can be off by less behind more days. */
        int mostDaysUnseen(int thing, int m) {
            for (int k = MOST_SELDOM; k >= 1; k--) {
                if (isNeverOffByMore(thing, m, k)) {
                    return k;
                }
            }
            return NONE;
        }

        private boolean isNeverOffByMore(int thing, int m, int k) {
            int itIs = land.was[thing];
            int unseen = 0;
            for (int d = 0; d < MOST_AHEAD; d++) {
                itIs = land.dayOn(thing, itIs, land.day + d);
                if (land.offIf(thing, itIs) > m) {
                    return false;
                }
                unseen++;
                if (unseen == k) {
                    itIs = land.was[thing];
                    unseen = 0;
                }
            }
            return true;
        }

        int firstReturn() {
            beginNow();
            for (int d = 1; d <= MOST_ROUND; d++) {
                passDay(NOBODY);
                if (isWholeRound(d) && isAllAsNow()) {
                    return d;
                }
            }
            return NONE;
        }

        private boolean isWholeRound(int n) {
            if (n % SEASONS_AND_WEEKS != 0) {
                return false;
            }
            for (int t = 0; t < land.things; t++) {
                int by = land.by[t];
                if (land.isPersonAt(t) && by > 0 && n % by != 0) {
                    return false;
                }
            }
            return true;
        }

        private boolean isAllAsNow() {
            for (int t = 0; t < land.things; t++) {
                if (is[t] != land.is[t]) {
                    return false;
                }
            }
            return true;
        }

        int hasteBits(Rows rows, int row, int from, int n) {
            int bits = isToldIfHasty(NOBODY, rows, row, from, n) ? AS_IT_IS : 0;
            for (int t = 0; t < land.things; t++) {
                bits |= isToldIfHasty(t, rows, row, from, n) ? 1 << t : 0;
            }
            return bits;
        }

        private boolean isToldIfHasty(int hasty, Rows rows, int row, int from, int n) {
            beginNow();
            for (int d = 0; d < n; d++) {
                passDay(hasty);
                if (allOff() != rows.read(row, from + d)) {
                    return false;
                }
            }
            return true;
        }

        int kindBits(int thing, Rows rows, int row, int from, int n) {
            int bits = 0;
            for (int kind = GROWING; kind <= WIDOW; kind++) {
                bits |= isToldIfOf(kind, thing, rows, row, from, n) ? 1 << kind : 0;
            }
            return bits;
        }

        private boolean isToldIfOf(int kind, int thing, Rows rows, int row, int from, int n) {
            int itIs = land.is[thing];
            for (int d = 0; d < n; d++) {
                itIs = land.dayOnAs(kind, thing, itIs, land.day + d);
                if (itIs != rows.read(row, from + d)) {
                    return false;
                }
            }
            return true;
        }

        int mostOff(int n) {
            beginNow();
            int most = mostOffThen();
            for (int d = 0; d < n; d++) {
                passDay(NOBODY);
                most = Math.max(most, mostOffThen());
            }
            return most;
        }

        private int mostOffThen() {
            int most = 0;
            for (int t = 0; t < land.things; t++) {
                most = Math.max(most, land.offIf(t, is[t]));
            }
            return most;
        }

        long fractionAlike(int thing, int p, int n, boolean below) {
            countWays(p, n);
            long alike = 0;
            long all = 0;
            int itIs = land.is[thing];
            for (int changes = 0; changes <= n; changes++) {
                all += ways[changes];
                alike += land.offIf(thing, itIs) <= land.may ? ways[changes] : 0;
                itIs = land.dayOn(thing, itIs, land.day);
            }
            long divisor = greatestDivisor(alike, all);
            if (divisor == 0) {
                return NONE;
            }
            return below ? all / divisor : alike / divisor;
        }

        /** Of the 10 to the n cases, how many have so many changes. */
        private void countWays(int p, int n) {
            for (int changes = 0; changes <= MOST_ODDS_DAYS; changes++) {
                ways[changes] = 0;
            }
            ways[0] = 1;
            for (int d = 1; d <= n; d++) {
                for (int changes = d; changes >= 1; changes--) {
                    ways[changes] = ways[changes] * (TENTHS - p) + ways[changes - 1] * p;
                }
                ways[0] *= TENTHS - p;
            }
        }

        /** A thousand steps are far more than numbers of ten figures need. */
        private static long greatestDivisor(long a, long b) {
            long greater = b;
            long rest = a;
            for (int step = 0; step < 1000 && rest != 0; step++) {
                long next = greater % rest;
                greater = rest;
                rest = next;
            }
            return greater;
        }

        int pricesOfLeaves(int n) {
            beginNow();
            int prices = 0;
            for (int d = 0; d < n; d++) {
                passDay(NOBODY);
                prices += pricesOfFallen();
            }
            return prices;
        }

        private int pricesOfFallen() {
            int prices = 0;
            for (int t = 0; t < land.things; t++) {
                int off = land.offIf(t, is[t]);
                if (land.kind[t] == FALLING && off > land.may) {
                    prices += land.price[t] * off;
                    is[t] = land.was[t];
                }
            }
            return prices;
        }

        /** All OFF then is asked behind it. */
        int costByDraws(int n, int seed) {
            beginNow();
            int cost = 0;
            long x = seed;
            for (int d = 0; d < n; d++) {
                x = x * MULTIPLIER % MODULUS;
                cost += putBackDrawn(x);
                passDay(NOBODY);
            }
            return cost;
        }

        private int putBackDrawn(long x) {
            if (land.things == 0) {
                return 0;
            }
            int thing = (int) (x % land.things);
            if (!land.has(thing) || land.isPersonAt(thing) || land.offIf(thing, is[thing]) == 0) {
                return 0;
            }
            int cost = land.costToPutBack(thing, is[thing]);
            is[thing] = land.was[thing];
            return cost;
        }
    }

    private static final class Asks {
        private static final int MOST_TRACED = 16, MOST_DEPTH = 8;
        // By the kind: the body told for it, else that of the nearest kind that it is, too, else the lent one.
        private static final int[] SIZE_BODY = {10, 11, 12, 11, 13, 14};
        private static final int[] MARK_BODY = {20, 21, 24, 22, 23, 23};
        // By the kind: the bits of the kinds that it is.
        private static final int[] KINDS_TOO = {1, 3, 7, 11, 17, 49};

        private final Land land;
        private final int[] trace = new int[MOST_TRACED];
        private int length = 0;
        private int one = 0;

        Asks(Land land) {
            this.land = land;
        }

        static boolean isKindToo(int kind, int other) {
            return isWithin(kind, ANY_KIND, WIDOW) && (KINDS_TOO[kind] >> other & 1) == 1;
        }

        int answer(int asked, int what) {
            length = 0;
            one = asked;
            return what == 0 ? sizeAnew(0) : markAnew(0);
        }

        int traced(int i) {
            return isWithin(i, 0, length - 1) ? trace[i] : NONE;
        }

        private int sizeAnew(int depth) {
            int kind = land.kind[one];
            return isWithin(kind, ANY_KIND, WIDOW) ? give(SIZE_BODY[kind], depth) : 0;
        }

        private int markAnew(int depth) {
            int kind = land.kind[one];
            return isWithin(kind, ANY_KIND, WIDOW) ? give(MARK_BODY[kind], depth) : 0;
        }

        private int give(int body, int depth) {
            if (depth > MOST_DEPTH) {
                return 0;
            }
            leave(body);
            int deeper = depth + 1;
            switch (body) {
                case 10: return land.by[one];
                case 11: return give(10, deeper) + markAnew(deeper);
                case 12: return 0 - give(11, deeper);
                case 13: return give(10, deeper) - 100;
                case 14: return give(13, deeper) * 2;
                case 20: return one;
                case 21: return give(20, deeper) + land.is[one];
                case 22: return give(21, deeper) - 1000;
                case 23: return give(20, deeper) - sizeAnew(deeper);
                case 24: return give(21, deeper) * 2;
                default: return 0;
            }
        }

        private void leave(int body) {
            if (length < MOST_TRACED) {
                trace[length] = body;
                length++;
            }
        }
    }
}
