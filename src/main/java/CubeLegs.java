import java.util.Arrays;

/**
 * Parcels that go over the edges of a cube in two legs: from FROM to BETWEEN, from BETWEEN to TO.
 *
 * <p>An edge is held as one number, 4 * corner + side, so that rising numbers are the document's
 * order (by corners, then sides) and all edges of a way fit as bits into one long.
 */
public final class CubeLegs {
    public static final int NONE = -1, BAD = -2, NO = -3, FULL = -4;

    private static final int NOT_SO_FAR = -5;
    private static final int FAULT_BASE = -10;

    private static final int MOST_SIDES = 4;
    private static final int MOST_PARCELS = 16;
    private static final int MOST_EDGES = 64;
    private static final int LONGEST_WAY = 8;
    private static final int RANKS = 100;
    private static final int MOST_STATES = 6;
    private static final int TEXT_ROOM = 120;
    private static final int BYTES = 128;
    private static final int MOST_SEED = 999999;

    /** The last tick that may be asked for; no run is longer than 128 ticks (16 ways of 8 edges). */
    private static final int LAST_TICK = 400;

    private static final int FROM = 0, TO = 1, BETWEEN = 2, RANK = 3, TRAITS = 4;
    private static final int EDGES = 4, MET = 5;
    private static final int ORDER = 0, RULE = 1;
    private static final int RISING = 0, ORDERS = 2;
    private static final int FIFO = 0, FARTHEST = 2, SECOND = 3, RULES = 4;

    private final Task task = new Task();
    private final History history = new History();
    private final Ways ways = new Ways();
    private final Loads tally = new Loads();
    private final Traffic traffic = new Traffic();
    private final Reader reader = new Reader();

    /** How often BAD, NO and FULL were answered. */
    private final int[] refused = new int[3];

    private int above = 0;
    private int below = 1;

    public CubeLegs() {
    }

    // ---- parcels

    public int sides(int v) {
        if (v < 1 || v > MOST_SIDES) {
            return refuse(BAD);
        }
        history.keep(task);
        int was = task.sideCount;
        task.sideCount = v;
        task.count = 0;
        return was;
    }

    public int parcel(int from, int to, int between, int rank) {
        if (!task.allows(FROM, from) || !task.allows(TO, to)
                || !task.allows(BETWEEN, between) || !task.allows(RANK, rank)) {
            return refuse(BAD);
        }
        if (task.count >= MOST_PARCELS) {
            return refuse(FULL);
        }
        history.keep(task);
        task.add(from, to, between, rank);
        return task.count - 1;
    }

    public int sets(int p, int what, int v) {
        if (!task.has(p) || what < 0 || what >= TRAITS || !task.allows(what, v)) {
            return refuse(BAD);
        }
        history.keep(task);
        int was = task.trait(p, what);
        task.change(p, what, v);
        return was;
    }

    public int rules(int what, int v) {
        boolean order = what == ORDER && v >= 0 && v < ORDERS;
        boolean rule = what == RULE && v >= 0 && v < RULES;
        if (!order && !rule) {
            return refuse(BAD);
        }
        history.keep(task);
        int was = order ? task.order : task.rule;
        if (order) {
            task.order = v;
        } else {
            task.rule = v;
        }
        return was;
    }

    public int empties() {
        history.keep(task);
        int were = task.count;
        task.count = 0;
        return were;
    }

    public int fills(int how, int seed) {
        if (how < 0 || how > 3 || seed < 0 || seed > MOST_SEED) {
            return refuse(BAD);
        }
        history.keep(task);
        task.count = 0;
        int corners = task.corners();
        long x = seed;
        for (int corner = 0; corner < corners; corner++) {
            x = (x * 1103515245L + 12345L) % 2147483648L;
            int to = how == 3 ? (int) (x / 32768 % corners) : task.partner(corner, how);
            task.add(corner, to, (int) (x / 65536 % corners), (int) (x / 1024 % RANKS));
        }
        return task.count;
    }

    public int of(int p, int what) {
        if (!task.has(p) || what < 0 || what > MET) {
            return refuse(BAD);
        }
        ways.follow(task);
        return factOf(p, what);
    }

    public int step(int p, int k) {
        if (!task.has(p) || k < 0) {
            return refuse(BAD);
        }
        ways.follow(task);
        return k > ways.edgeCount[p] ? NOT_SO_FAR : ways.cornerBehind(task, p, k);
    }

    // ---- loads

    public int load(int corner, int side) {
        if (!task.hasEdge(corner, side)) {
            return refuse(BAD);
        }
        tallyWays();
        return tally.amounts[corner * MOST_SIDES + side];
    }

    public int loads(int what) {
        if (what < 0 || what > 3) {
            return refuse(BAD);
        }
        tallyWays();
        return loadsFact(what);
    }

    public int expected(int corner, int side, int p) {
        if (!task.hasEdge(corner, side) || p < 0 || p > MOST_PARCELS) {
            return refuse(BAD);
        }
        tallyMean(p);
        setFraction(tally.amounts[corner * MOST_SIDES + side]);
        return 1;
    }

    public int part(int what) {
        if (what < 0 || what > 1) {
            return refuse(BAD);
        }
        return what == 0 ? above : below;
    }

    public int greatest() {
        if (task.count == 0) {
            return refuse(NO);
        }
        tallyMean(0);
        int edge = tally.firstGreatest();
        setFraction(tally.amounts[edge]);
        return nameOf(edge);
    }

    public int chooses() {
        if (task.count == 0) {
            return refuse(NO);
        }
        history.keep(task);
        tallyMean(0);
        for (int p = 0; p < task.count; p++) {
            chooseBetween(p);
        }
        tallyWays();
        return loadsFact(0);
    }

    // ---- runs

    public int run(int what) {
        if (what < 0 || what > 4) {
            return refuse(BAD);
        }
        ways.follow(task);
        traffic.flow(task, ways, task.rule, LAST_TICK);
        return runFact(what);
    }

    public int ran(int p, int what, int k) {
        if (!task.has(p) || what < 0 || what > 2) {
            return refuse(BAD);
        }
        if (what == 2 && (k < 0 || k > LAST_TICK)) {
            return refuse(BAD);
        }
        ways.follow(task);
        traffic.flow(task, ways, task.rule, what == 2 ? k : LAST_TICK);
        switch (what) {
            case 0:
                return traffic.home[p];
            case 1:
                return traffic.delay[p];
            default:
                return ways.cornerBehind(task, p, traffic.gone[p]);
        }
    }

    public int best(int what) {
        if (what < 0 || what > 1) {
            return refuse(BAD);
        }
        ways.follow(task);
        int bestRule = 0;
        int fewest = LAST_TICK;
        for (int rule = 0; rule < RULES; rule++) {
            traffic.flow(task, ways, rule, LAST_TICK);
            if (traffic.ticks < fewest) {
                fewest = traffic.ticks;
                bestRule = rule;
            }
        }
        return what == 0 ? bestRule : fewest;
    }

    public int straight() {
        tally.empty();
        for (int p = 0; p < task.count; p++) {
            ways.trace(task, p, task.trait(p, FROM));
            tally.add(ways, p, 1);
        }
        return loadsFact(0);
    }

    // ---- texts

    public int type(int c) {
        if (c < 0 || c >= BYTES) {
            return refuse(BAD);
        }
        if (reader.size >= TEXT_ROOM) {
            return refuse(FULL);
        }
        reader.append(c);
        return reader.size;
    }

    public int clear() {
        int had = reader.size;
        reader.size = 0;
        return had;
    }

    public int reads() {
        reader.read(task.count, task.corners());
        if (reader.fault != NONE) {
            return FAULT_BASE - reader.fault;
        }
        history.keep(task);
        for (int i = 0; i < reader.found; i++) {
            task.add(reader.trait(i, FROM), reader.trait(i, TO), reader.trait(i, BETWEEN), reader.trait(i, RANK));
        }
        return reader.found;
    }

    public int back() {
        if (history.count == 0) {
            return refuse(NO);
        }
        history.restore(task);
        return history.count;
    }

    public int told(int what) {
        if (what < 0 || what > 8) {
            return refuse(BAD);
        }
        switch (what) {
            case 3:
                return reader.size;
            case 4:
                return task.sideCount;
            case 5:
                return task.count;
            case 6:
                return task.order;
            case 7:
                return task.rule;
            case 8:
                return history.count;
            default:
                return refused[what];
        }
    }

    public long digest() {
        long h = 2141;
        for (int what = 0; what <= 8; what++) {
            h = 31 * h + told(what);
        }
        tallyWays();
        for (int p = 0; p < task.count; p++) {
            for (int what = 0; what <= MET; what++) {
                h = 31 * h + factOf(p, what);
            }
        }
        h = 31 * h + above;
        h = 31 * h + below;
        for (int what = 0; what <= 2; what++) {
            h = 31 * h + loadsFact(what);
        }
        traffic.flow(task, ways, task.rule, LAST_TICK);
        for (int what = 0; what <= 2; what++) {
            h = 31 * h + runFact(what);
        }
        return h;
    }

    // ---- what several calls share

    /** Counts a refusal; the codes BAD, NO, FULL lie in a row downwards. */
    private int refuse(int code) {
        int which = BAD - code;
        if (which >= 0 && which < refused.length) {
            refused[which]++;
        }
        return code;
    }

    private static int nameOf(int edge) {
        return edge / MOST_SIDES * 10 + edge % MOST_SIDES;
    }

    /** The ways must have been followed. */
    private int factOf(int p, int what) {
        switch (what) {
            case EDGES:
                return ways.edgeCount[p];
            case MET:
                return ways.meetings(p, task.count);
            default:
                return task.trait(p, what);
        }
    }

    private void tallyWays() {
        ways.follow(task);
        tally.empty();
        for (int p = 0; p < task.count; p++) {
            tally.add(ways, p, 1);
        }
    }

    /**
     * Tallies the expected loads, times the number of corners so that they stay whole: the ways of
     * parcels below {@code fixed} weigh one corner count each, those of drawn ones one a between.
     */
    private void tallyMean(int fixed) {
        tally.empty();
        for (int p = 0; p < task.count; p++) {
            if (p < fixed) {
                ways.trace(task, p, task.trait(p, BETWEEN));
                tally.add(ways, p, task.corners());
            } else {
                addDrawn(p, 1);
            }
        }
    }

    private void addDrawn(int p, int weight) {
        int corners = task.corners();
        for (int between = 0; between < corners; between++) {
            ways.trace(task, p, between);
            tally.add(ways, p, weight);
        }
    }

    /** The tally must hold the mean with the parcels below p fixed; p is fixed in it, too, then. */
    private void chooseBetween(int p) {
        addDrawn(p, -1);
        int corners = task.corners();
        int chosen = 0;
        int leastGreatest = 0;
        int leastSquares = 0;
        for (int between = 0; between < corners; between++) {
            ways.trace(task, p, between);
            tally.add(ways, p, corners);
            int greatest = tally.amounts[tally.firstGreatest()];
            int squares = tally.squares();
            if (between == 0 || greatest < leastGreatest || greatest == leastGreatest && squares < leastSquares) {
                chosen = between;
                leastGreatest = greatest;
                leastSquares = squares;
            }
            tally.add(ways, p, -corners);
        }
        task.change(p, BETWEEN, chosen);
        ways.trace(task, p, chosen);
        tally.add(ways, p, corners);
    }

    /** Halving is enough for lowest terms: the number of corners is a power of two. */
    private void setFraction(int timesCorners) {
        above = timesCorners;
        below = task.corners();
        for (int i = 0; i < MOST_SIDES && below > 1 && above % 2 == 0; i++) {
            above /= 2;
            below /= 2;
        }
    }

    /** The tally must hold the loads of ways. */
    private int loadsFact(int what) {
        int first = tally.firstGreatest();
        int congestion = tally.amounts[first];
        switch (what) {
            case 0:
                return congestion;
            case 1:
                return tally.countAtLeast(congestion, task);
            case 2:
                return tally.countAtLeast(1, task);
            default:
                return congestion == 0 ? NONE : nameOf(first);
        }
    }

    /** The traffic must have flowed to its end. */
    private int runFact(int what) {
        int late = traffic.mostDelayed(task.count);
        switch (what) {
            case 0:
                return traffic.ticks;
            case 1:
                return traffic.delayOfAll(task.count);
            case 2:
                return late == NONE ? 0 : traffic.delay[late];
            case 3:
                return late;
            default:
                return traffic.mostWanting;
        }
    }

    /** The cube, its parcels and the rules: all that going a state back brings again. */
    private static final class Task {
        int sideCount = 3;
        int order = RISING;
        int rule = FIFO;
        int count = 0;
        private final int[] traits = new int[MOST_PARCELS * TRAITS];

        int corners() {
            return 1 << sideCount;
        }

        boolean has(int p) {
            return p >= 0 && p < count;
        }

        boolean hasEdge(int corner, int side) {
            return corner >= 0 && corner < corners() && side >= 0 && side < sideCount;
        }

        boolean allows(int what, int v) {
            return v >= 0 && v < (what == RANK ? RANKS : corners());
        }

        int trait(int p, int what) {
            return traits[p * TRAITS + what];
        }

        void change(int p, int what, int v) {
            traits[p * TRAITS + what] = v;
        }

        void add(int from, int to, int between, int rank) {
            if (count >= MOST_PARCELS) {
                return;
            }
            change(count, FROM, from);
            change(count, TO, to);
            change(count, BETWEEN, between);
            change(count, RANK, rank);
            count++;
        }

        /** Where the parcel of a corner goes by fills of the undrawn kinds 0, 1 and 2. */
        int partner(int corner, int how) {
            int last = corners() - 1;
            if (how == 0) {
                return last - corner;
            }
            if (how == 2) {
                return corner == last ? 0 : corner + 1;
            }
            int turned = 0;
            for (int side = 0; side < sideCount; side++) {
                turned = 2 * turned + (corner >> side) % 2;
            }
            return turned;
        }

        void take(Task other) {
            sideCount = other.sideCount;
            order = other.order;
            rule = other.rule;
            count = other.count;
            System.arraycopy(other.traits, 0, traits, 0, traits.length);
        }
    }

    /** The newest states, in a ring whose places are made once and used again. */
    private static final class History {
        int count = 0;
        private int newest = 0;
        private final Task[] kept = new Task[MOST_STATES];

        History() {
            for (int i = 0; i < MOST_STATES; i++) {
                kept[i] = new Task();
            }
        }

        void keep(Task task) {
            newest = (newest + 1) % MOST_STATES;
            kept[newest].take(task);
            count = Math.min(count + 1, MOST_STATES);
        }

        void restore(Task task) {
            if (count == 0) {
                return;
            }
            task.take(kept[newest]);
            newest = (newest + MOST_STATES - 1) % MOST_STATES;
            count--;
        }
    }

    /** The ways of the parcels, a row of edges each. */
    private static final class Ways {
        final int[] edgeCount = new int[MOST_PARCELS];
        final int[] firstLeg = new int[MOST_PARCELS];
        private final int[] edges = new int[MOST_PARCELS * LONGEST_WAY];
        private final long[] edgeSets = new long[MOST_PARCELS];

        void follow(Task task) {
            for (int p = 0; p < task.count; p++) {
                trace(task, p, task.trait(p, BETWEEN));
            }
        }

        /** Makes the way that parcel p would go by another between. */
        void trace(Task task, int p, int between) {
            edgeCount[p] = 0;
            edgeSets[p] = 0;
            addLeg(task, p, task.trait(p, FROM), between);
            firstLeg[p] = edgeCount[p];
            addLeg(task, p, between, task.trait(p, TO));
        }

        private void addLeg(Task task, int p, int start, int aim) {
            int at = start;
            for (int i = 0; i < task.sideCount; i++) {
                int side = task.order == RISING ? i : task.sideCount - 1 - i;
                int bit = 1 << side;
                if (((at ^ aim) & bit) != 0) {
                    int edge = at * MOST_SIDES + side;
                    edges[p * LONGEST_WAY + edgeCount[p]] = edge;
                    edgeSets[p] |= 1L << edge;
                    edgeCount[p]++;
                    at ^= bit;
                }
            }
        }

        int edge(int p, int k) {
            return edges[p * LONGEST_WAY + k];
        }

        int cornerBehind(Task task, int p, int k) {
            return k < edgeCount[p] ? edge(p, k) / MOST_SIDES : task.trait(p, TO);
        }

        int meetings(int p, int count) {
            int met = 0;
            for (int other = 0; other < count; other++) {
                if (other != p && (edgeSets[other] & edgeSets[p]) != 0) {
                    met++;
                }
            }
            return met;
        }
    }

    /** An amount for each edge; edges that the cube has not stay at 0. */
    private static final class Loads {
        final int[] amounts = new int[MOST_EDGES];

        void empty() {
            Arrays.fill(amounts, 0);
        }

        void add(Ways ways, int p, int weight) {
            for (int k = 0; k < ways.edgeCount[p]; k++) {
                amounts[ways.edge(p, k)] += weight;
            }
        }

        int firstGreatest() {
            int first = 0;
            for (int edge = 1; edge < MOST_EDGES; edge++) {
                if (amounts[edge] > amounts[first]) {
                    first = edge;
                }
            }
            return first;
        }

        int squares() {
            int sum = 0;
            for (int edge = 0; edge < MOST_EDGES; edge++) {
                sum += amounts[edge] * amounts[edge];
            }
            return sum;
        }

        /** Looks at the cube's own edges only, since an amount of 0 counts, too. */
        int countAtLeast(int amount, Task task) {
            int found = 0;
            for (int corner = 0; corner < task.corners(); corner++) {
                for (int side = 0; side < task.sideCount; side++) {
                    if (amounts[corner * MOST_SIDES + side] >= amount) {
                        found++;
                    }
                }
            }
            return found;
        }
    }

    /** A run, tick by tick. */
    private static final class Traffic {
        int ticks;
        int mostWanting;
        final int[] home = new int[MOST_PARCELS];
        final int[] delay = new int[MOST_PARCELS];
        final int[] gone = new int[MOST_PARCELS];
        private final int[] came = new int[MOST_PARCELS];
        private final int[] wanted = new int[MOST_PARCELS];
        private final int[] wanting = new int[MOST_EDGES];
        private final int[] winner = new int[MOST_EDGES];

        /** Runs until all are home, or to the end of the last tick. */
        void flow(Task task, Ways ways, int rule, int lastTick) {
            ticks = 0;
            mostWanting = 0;
            Arrays.fill(home, 0);
            Arrays.fill(delay, 0);
            Arrays.fill(gone, 0);
            Arrays.fill(came, 0);
            for (int tick = 1; tick <= lastTick && look(task, ways); tick++) {
                contest(task, ways, rule);
                move(task, tick);
                ticks = tick;
            }
        }

        /** Notes what each parcel wants; tells whether any is not home yet. */
        private boolean look(Task task, Ways ways) {
            boolean any = false;
            for (int p = 0; p < task.count; p++) {
                wanted[p] = NONE;
                if (gone[p] < ways.edgeCount[p]) {
                    int edge = ways.edge(p, gone[p]);
                    wanted[p] = edge;
                    wanting[edge] = 0;
                    winner[edge] = NONE;
                    any = true;
                }
            }
            return any;
        }

        private void contest(Task task, Ways ways, int rule) {
            for (int p = 0; p < task.count; p++) {
                int edge = wanted[p];
                if (edge != NONE) {
                    wanting[edge]++;
                    mostWanting = Math.max(mostWanting, wanting[edge]);
                    if (winner[edge] == NONE || isAhead(task, ways, rule, p, winner[edge])) {
                        winner[edge] = p;
                    }
                }
            }
        }

        private void move(Task task, int tick) {
            for (int p = 0; p < task.count; p++) {
                int edge = wanted[p];
                if (edge == NONE) {
                    continue;
                }
                if (winner[edge] == p) {
                    gone[p]++;
                    came[p] = tick;
                    home[p] = tick;
                } else {
                    delay[p]++;
                }
            }
        }

        private boolean isAhead(Task task, Ways ways, int rule, int p, int q) {
            int byRule = lead(ways, rule, p, q);
            if (byRule != 0) {
                return byRule > 0;
            }
            int rankP = task.trait(p, RANK);
            int rankQ = task.trait(q, RANK);
            return rankP != rankQ ? rankP > rankQ : p < q;
        }

        /** Above 0: the rule puts p ahead of q, before ranks are looked at; below 0: q ahead of p. */
        private int lead(Ways ways, int rule, int p, int q) {
            switch (rule) {
                case FIFO:
                    return came[q] - came[p];
                case FARTHEST:
                    return ways.edgeCount[p] - gone[p] - (ways.edgeCount[q] - gone[q]);
                case SECOND:
                    return legOf(ways, p) - legOf(ways, q);
                default:
                    return 0;
            }
        }

        /** A parcel at its between is on its second leg: that is where its next edge lies. */
        private int legOf(Ways ways, int p) {
            return gone[p] < ways.firstLeg[p] ? 1 : 2;
        }

        int delayOfAll(int count) {
            int sum = 0;
            for (int p = 0; p < count; p++) {
                sum += delay[p];
            }
            return sum;
        }

        int mostDelayed(int count) {
            int late = NONE;
            for (int p = 0; p < count; p++) {
                if (late == NONE || delay[p] > delay[late]) {
                    late = p;
                }
            }
            return late;
        }
    }

    /** The text, and the parcels found in it; once there is a fault, nothing more is read. */
    private static final class Reader {
        int size = 0;
        int fault = NONE;
        int found = 0;
        private int place = 0;
        private final byte[] text = new byte[TEXT_ROOM];
        private final int[] traits = new int[MOST_PARCELS * TRAITS];

        void append(int c) {
            if (size < TEXT_ROOM) {
                text[size] = (byte) c;
                size++;
            }
        }

        int trait(int i, int what) {
            return traits[i * TRAITS + what];
        }

        void read(int already, int corners) {
            fault = NONE;
            found = 0;
            place = 0;
            skipBlanks();
            if (place >= size) {
                failAt(size);
            }
            for (int i = 0; i < TEXT_ROOM && place < size && fault == NONE; i++) {
                readParcel(already, corners);
                skipBlanks();
            }
        }

        private void readParcel(int already, int corners) {
            if (already + found >= MOST_PARCELS) {
                failAt(place);
                return;
            }
            int from = readNumber(corners);
            need('>');
            int to = readNumber(corners);
            int between = takes('/') ? readNumber(corners) : from;
            int rank = takes('*') ? readNumber(RANKS) : 0;
            need(';');
            if (fault == NONE) {
                traits[found * TRAITS + FROM] = from;
                traits[found * TRAITS + TO] = to;
                traits[found * TRAITS + BETWEEN] = between;
                traits[found * TRAITS + RANK] = rank;
                found++;
            }
        }

        private int readNumber(int limit) {
            if (fault != NONE) {
                return 0;
            }
            skipBlanks();
            int start = place;
            int value = 0;
            while (place < size && text[place] >= '0' && text[place] <= '9') {
                // Kept from overflowing by a long row of figures, which is a fault at any rate.
                value = Math.min(10 * value + text[place] - '0', limit);
                place++;
            }
            if (place == start || place - start > 2 || value >= limit) {
                failAt(start);
            }
            return value;
        }

        private boolean takes(char sign) {
            if (fault != NONE) {
                return false;
            }
            skipBlanks();
            if (place < size && text[place] == sign) {
                place++;
                return true;
            }
            return false;
        }

        private void need(char sign) {
            if (!takes(sign)) {
                failAt(place);
            }
        }

        private void skipBlanks() {
            while (place < size && text[place] == ' ') {
                place++;
            }
        }

        /** The first fault counts. */
        private void failAt(int at) {
            if (fault == NONE) {
                fault = at;
            }
        }
    }
}
