import java.util.ArrayList;

/** Plans of queries that are kept with the guesses behind them, and thrown out as those drift. */
public final class DriftPlans {
    public static final int INVALID_ARGUMENT = -1;
    public static final int NOT_POSSIBLE = -2;
    public static final int LIMIT_REACHED = -3;
    public static final int NOT_FOUND = -4;

    private static final int TABLES = 5;
    /** All sets of tables as bits, the empty one too. */
    private static final int SETS = 32;
    private static final int FIRST_ROWS = 10;
    private static final int MOST_ROWS = 500;
    private static final int MOST_DIGITS = 3;
    private static final int WHOLE = 100;
    private static final int FIRST_DRIFT = 200;
    private static final int LOWEST_DRIFT = 100;
    private static final int HIGHEST_DRIFT = 1000;
    private static final int MAKING_A_TABLE = 10;
    private static final int MOST_KEPT = 4;
    private static final int MOST_STATES = 4;
    private static final int MOST_SIGNS = 60;
    private static final int FIRST_SIGN = 33;
    private static final int LAST_SIGN = 126;
    private static final long MOST_TOLD = 1000000000L;
    private static final int NOWHERE = -1;

    private State now = new State();
    private State snapshot = null;
    private final ArrayList<State> history = new ArrayList<>();
    private final Reckoner reckoner = new Reckoner();
    private final Pad pad = new Pad();
    private int stopDeed = NOWHERE;
    private int stopPlace = NOWHERE;

    public DriftPlans() {
    }

    // ---- tables

    public int rows(int table, int rows) {
        if (!isTable(table) || rows < 1 || rows > MOST_ROWS) {
            return INVALID_ARGUMENT;
        }
        remember();
        int before = now.rows[table];
        now.rows[table] = rows;
        return before;
    }

    public int part(int table, int other, int part) {
        if (!isJoin(table, other) || part < 1 || part > WHOLE) {
            return INVALID_ARGUMENT;
        }
        remember();
        now.parts[table][other] = part;
        now.parts[other][table] = part;
        return now.throwOutJoins(bit(table) | bit(other));
    }

    public int count(int table) {
        if (!isTable(table)) {
            return INVALID_ARGUMENT;
        }
        remember();
        return now.countTables(bit(table));
    }

    // ---- queries, plans

    public int run(int shape) {
        if (!isSet(shape)) {
            return INVALID_ARGUMENT;
        }
        remember();
        return told(runQuery(shape));
    }

    public int pin(int shape) {
        if (!isSet(shape)) {
            return INVALID_ARGUMENT;
        }
        int place = now.placeOf(shape);
        if (place == NOWHERE) {
            return NOT_POSSIBLE;
        }
        remember();
        boolean pinned = !now.kept.get(place).pinned;
        now.setPinned(place, pinned);
        now.throwOutDrifted();
        return pinned ? 1 : 0;
    }

    public int forget(int shape) {
        if (!isSet(shape)) {
            return INVALID_ARGUMENT;
        }
        int place = now.placeOf(shape);
        if (place == NOWHERE) {
            return NOT_POSSIBLE;
        }
        remember();
        now.forgotten++;
        return told(now.kept.remove(place).runs);
    }

    public int drift(int drift) {
        if (drift < LOWEST_DRIFT || drift > HIGHEST_DRIFT) {
            return INVALID_ARGUMENT;
        }
        remember();
        now.driftLimit = drift;
        return now.throwOutDrifted();
    }

    // ---- texts

    public int append(int code) {
        if (code < FIRST_SIGN || code > LAST_SIGN) {
            return INVALID_ARGUMENT;
        }
        return pad.put((char) code) ? pad.length : LIMIT_REACHED;
    }

    public int clear() {
        int before = pad.length;
        pad.length = 0;
        return before;
    }

    public int fault() {
        int place = new Reader(pad).findFault();
        return place == NOWHERE ? NOT_FOUND : place;
    }

    public int carryOut() {
        if (new Reader(pad).findFault() != NOWHERE) {
            return NOT_POSSIBLE;
        }
        remember();
        stopDeed = NOWHERE;
        stopPlace = NOWHERE;
        Reader script = new Reader(pad);
        int done = 0;
        while (done < MOST_SIGNS && stopDeed == NOWHERE && script.readDeed()) {
            if (carryOutDeed(script)) {
                done++;
                script.readSign(';');
            } else {
                stopDeed = done;
                stopPlace = script.start;
            }
        }
        pad.length = 0;
        return done;
    }

    public int why(int what) {
        if (what < 0 || what > 1) {
            return INVALID_ARGUMENT;
        }
        if (stopDeed == NOWHERE) {
            return NOT_FOUND;
        }
        return what == 0 ? stopDeed : stopPlace;
    }

    // ---- looks; nothing is changed

    public int table(int table, int what) {
        if (!isTable(table)) {
            return INVALID_ARGUMENT;
        }
        switch (what) {
            case 0:
                return now.rows[table];
            case 1:
                return now.guesses[table];
            case 2:
                return driftDown(now.rows[table], now.guesses[table]);
            case 3:
                return now.keptWith(bit(table));
            default:
                return INVALID_ARGUMENT;
        }
    }

    public int partOf(int table, int other) {
        return isJoin(table, other) ? now.parts[table][other] : INVALID_ARGUMENT;
    }

    public int size(int set, boolean byRows) {
        return isSet(set) ? told(reckoned(byRows).sizeOf(set)) : INVALID_ARGUMENT;
    }

    public int least(int shape, boolean byRows, int way) {
        if (!isSet(shape) || way < 0 || way > 1) {
            return INVALID_ARGUMENT;
        }
        Reckoner numbers = reckoned(byRows);
        return told(way == 0 ? numbers.leastByOrders(shape) : numbers.leastBySets(shape));
    }

    public int best(int shape, boolean byRows, int place) {
        if (!isSet(shape) || place < 0) {
            return INVALID_ARGUMENT;
        }
        int tables = Integer.bitCount(shape);
        return place < tables ? tableAt(reckoned(byRows).bestOrder(shape), tables, place) : NOT_FOUND;
    }

    public int plan(int shape, int what) {
        if (!isSet(shape) || what < 0 || what > 11) {
            return INVALID_ARGUMENT;
        }
        int place = now.placeOf(shape);
        if (place == NOWHERE) {
            return NOT_FOUND;
        }
        Kept plan = now.kept.get(place);
        switch (what) {
            case 5:
                return told(reckoned(true).costOf(shape, plan.order));
            case 6:
                return told(reckoned(false).costOf(shape, plan.order));
            case 7:
                return told(plan.runs);
            case 8:
                return plan.pinned ? 1 : 0;
            case 9:
                return told(reckoned(true).excessOf(shape, plan.order));
            case 10:
                return now.driftsOnceCounted(plan, 0) ? 1 : 0;
            case 11:
                return place;
            default:
                int tables = Integer.bitCount(shape);
                return what < tables ? tableAt(plan.order, tables, what) : NOT_FOUND;
        }
    }

    public int counted(int what) {
        switch (what) {
            case 0:
                return now.kept.size();
            case 1:
                return now.countPinned();
            case 2:
                return now.driftLimit;
            case 3:
                return told(now.hits);
            case 4:
                return told(now.misses);
            case 5:
                return told(now.runCosts);
            case 6:
                return told(now.makingCosts);
            case 7:
                return told(now.driftedOut);
            case 8:
                return told(now.pushedOut);
            case 9:
                return told(now.joinedOut);
            case 10:
                return told(now.forgotten);
            case 11:
                return told(now.usedOnly);
            case 12:
                return pad.length;
            case 13:
                return history.size();
            default:
                return INVALID_ARGUMENT;
        }
    }

    public double fitness() {
        Reckoner numbers = reckoned(true);
        long leasts = 0;
        long costs = 0;
        for (int place = 0; place < now.kept.size(); place++) {
            Kept plan = now.kept.get(place);
            leasts += numbers.leastBySets(plan.shape);
            costs += numbers.costOf(plan.shape, plan.order);
        }
        return costs > 0 ? (double) leasts / (double) costs : 1.0;
    }

    // ---- what would be; nothing is changed

    public int ifCounted(int set, int what) {
        if (!isSet(set) || what < 0 || what > 1) {
            return INVALID_ARGUMENT;
        }
        Reckoner numbers = reckoned(true);
        int thrownOut = 0;
        int dearer = 0;
        for (int place = 0; place < now.kept.size(); place++) {
            Kept plan = now.kept.get(place);
            if (!plan.pinned && now.driftsOnceCounted(plan, set)) {
                thrownOut++;
            } else if (numbers.excessOf(plan.shape, plan.order) > 0) {
                dearer++;
            }
        }
        return what == 0 ? thrownOut : dearer;
    }

    public int ifRun(int shape) {
        if (!isSet(shape)) {
            return INVALID_ARGUMENT;
        }
        int place = now.placeOf(shape);
        if (place != NOWHERE) {
            return told(reckoned(true).costOf(shape, now.kept.get(place).order));
        }
        int order = reckoned(false).bestOrder(shape);
        return told(makingCost(shape) + reckoned(true).costOf(shape, order));
    }

    public int leastDrift() {
        int least = LOWEST_DRIFT;
        for (int place = 0; place < now.kept.size(); place++) {
            Kept plan = now.kept.get(place);
            if (!plan.pinned) {
                least = Math.max(least, now.driftToBear(plan));
            }
        }
        return least <= HIGHEST_DRIFT ? least : NOT_FOUND;
    }

    // ---- history, snapshot

    public int undo() {
        int latest = history.size() - 1;
        if (latest < 0) {
            return NOT_POSSIBLE;
        }
        now = history.remove(latest);
        return latest;
    }

    public int save() {
        snapshot = new State(now);
        return now.kept.size();
    }

    public int restore() {
        if (snapshot == null) {
            return NOT_POSSIBLE;
        }
        remember();
        now = new State(snapshot);
        return now.kept.size();
    }

    // ---- what the calls share

    private void remember() {
        history.add(new State(now));
        if (history.size() > MOST_STATES) {
            history.remove(0);
        }
    }

    private Reckoner reckoned(boolean byRows) {
        reckoner.reckon(byRows ? now.rows : now.guesses, now.parts);
        return reckoner;
    }

    private long runQuery(int shape) {
        int place = now.placeOf(shape);
        int order;
        long making = 0;
        if (place != NOWHERE) {
            order = now.kept.get(place).order;
            now.useAgain(place);
        } else {
            order = reckoned(false).bestOrder(shape);
            making = makingCost(shape);
            now.keepNew(shape, order, making);
        }
        long cost = reckoned(true).costOf(shape, order);
        now.runCosts += cost;
        now.countTables(shape);
        return making + cost;
    }

    /** Answers whether the deed returned no error. */
    private boolean carryOutDeed(Reader deed) {
        switch (deed.letter) {
            case 'q':
                runQuery(deed.tables);
                return true;
            case 'r':
                if (isTable(deed.table)) {
                    now.rows[deed.table] = deed.number;
                }
                return true;
            case 'c':
                now.countTables(bit(deed.table));
                return true;
            default:
                int place = now.placeOf(deed.tables);
                if (place == NOWHERE) {
                    return false;
                }
                now.setPinned(place, true);
                return true;
        }
    }

    private static int told(long number) {
        return (int) Math.min(number, MOST_TOLD);
    }

    private static boolean isTable(int table) {
        return table >= 0 && table < TABLES;
    }

    private static boolean isJoin(int table, int other) {
        return isTable(table) && isTable(other) && table != other;
    }

    private static boolean isSet(int set) {
        return set > 0 && set < SETS;
    }

    private static int bit(int table) {
        return 1 << table;
    }

    private static boolean has(int set, int table) {
        return (set >> table & 1) == 1;
    }

    private static boolean hasAll(int set, int part) {
        return (set & part) == part;
    }

    private static long makingCost(int shape) {
        return (long) MAKING_A_TABLE * Integer.bitCount(shape);
    }

    /** An order is told in octal digits, the first table ahead, so that the lesser of two orders is the lesser number. */
    private static int longerOrder(int order, int table) {
        return (order << 3) + table;
    }

    private static int tableAt(int order, int tables, int place) {
        return order >> 3 * (tables - 1 - place) & 7;
    }

    private static int driftDown(int one, int other) {
        int lesser = Math.min(one, other);
        return lesser > 0 ? Math.max(one, other) * 100 / lesser : 0;
    }

    private static int driftUp(int one, int other) {
        int lesser = Math.min(one, other);
        return lesser > 0 ? (Math.max(one, other) * 100 + lesser - 1) / lesser : 0;
    }

    /** Never changed once made: states share their plans. */
    private static final class Kept {
        final int shape;
        final int order;
        final int[] guesses;
        final long runs;
        final boolean pinned;

        Kept(int shape, int order, int[] guesses, long runs, boolean pinned) {
            this.shape = shape;
            this.order = order;
            this.guesses = guesses;
            this.runs = runs;
            this.pinned = pinned;
        }
    }

    /** Everything that undo brings back and a snapshot holds. */
    private static final class State {
        final int[] rows = new int[TABLES];
        final int[] guesses = new int[TABLES];
        final int[][] parts = new int[TABLES][TABLES];
        /** In the order in which they were run last, the one of longest ago first. */
        final ArrayList<Kept> kept = new ArrayList<>();
        int driftLimit;
        long hits;
        long misses;
        long runCosts;
        long makingCosts;
        long driftedOut;
        long pushedOut;
        long joinedOut;
        long forgotten;
        long usedOnly;

        State() {
            for (int table = 0; table < TABLES; table++) {
                rows[table] = FIRST_ROWS;
                guesses[table] = FIRST_ROWS;
                for (int other = 0; other < TABLES; other++) {
                    parts[table][other] = WHOLE;
                }
            }
            driftLimit = FIRST_DRIFT;
        }

        State(State from) {
            for (int table = 0; table < TABLES; table++) {
                rows[table] = from.rows[table];
                guesses[table] = from.guesses[table];
                for (int other = 0; other < TABLES; other++) {
                    parts[table][other] = from.parts[table][other];
                }
            }
            for (int place = 0; place < from.kept.size(); place++) {
                kept.add(from.kept.get(place));
            }
            driftLimit = from.driftLimit;
            hits = from.hits;
            misses = from.misses;
            runCosts = from.runCosts;
            makingCosts = from.makingCosts;
            driftedOut = from.driftedOut;
            pushedOut = from.pushedOut;
            joinedOut = from.joinedOut;
            forgotten = from.forgotten;
            usedOnly = from.usedOnly;
        }

        int placeOf(int shape) {
            for (int place = 0; place < kept.size(); place++) {
                if (kept.get(place).shape == shape) {
                    return place;
                }
            }
            return NOWHERE;
        }

        int keptWith(int tables) {
            int with = 0;
            for (int place = 0; place < kept.size(); place++) {
                if (hasAll(kept.get(place).shape, tables)) {
                    with++;
                }
            }
            return with;
        }

        int countPinned() {
            int pinned = 0;
            for (int place = 0; place < kept.size(); place++) {
                if (kept.get(place).pinned) {
                    pinned++;
                }
            }
            return pinned;
        }

        void setPinned(int place, boolean pinned) {
            if (place >= 0 && place < kept.size()) {
                Kept plan = kept.get(place);
                kept.set(place, new Kept(plan.shape, plan.order, plan.guesses, plan.runs, pinned));
            }
        }

        void useAgain(int place) {
            if (place >= 0 && place < kept.size()) {
                Kept plan = kept.remove(place);
                kept.add(new Kept(plan.shape, plan.order, plan.guesses, plan.runs + 1, plan.pinned));
                hits++;
            }
        }

        void keepNew(int shape, int order, long making) {
            misses++;
            makingCosts += making;
            if (kept.size() >= MOST_KEPT && !pushOneOut()) {
                usedOnly++;
            } else {
                kept.add(new Kept(shape, order, guesses.clone(), 1, false));
            }
        }

        private boolean pushOneOut() {
            for (int place = 0; place < kept.size(); place++) {
                if (!kept.get(place).pinned) {
                    kept.remove(place);
                    pushedOut++;
                    return true;
                }
            }
            return false;
        }

        int countTables(int set) {
            for (int table = 0; table < TABLES; table++) {
                if (has(set, table)) {
                    guesses[table] = rows[table];
                }
            }
            return throwOutDrifted();
        }

        int throwOutDrifted() {
            int before = kept.size();
            for (int place = before - 1; place >= 0; place--) {
                Kept plan = kept.get(place);
                if (!plan.pinned && driftsOnceCounted(plan, 0)) {
                    kept.remove(place);
                }
            }
            int thrownOut = before - kept.size();
            driftedOut += thrownOut;
            return thrownOut;
        }

        int throwOutJoins(int pair) {
            int before = kept.size();
            for (int place = before - 1; place >= 0; place--) {
                Kept plan = kept.get(place);
                if (!plan.pinned && hasAll(plan.shape, pair)) {
                    kept.remove(place);
                }
            }
            int thrownOut = before - kept.size();
            joinedOut += thrownOut;
            return thrownOut;
        }

        /** With the empty set it tells whether the plan has drifted by the guesses of now. */
        boolean driftsOnceCounted(Kept plan, int set) {
            for (int table = 0; table < TABLES && table < plan.guesses.length; table++) {
                int guess = has(set, table) ? rows[table] : guesses[table];
                int behind = plan.guesses[table];
                if (has(plan.shape, table)
                        && Math.max(guess, behind) * 100 > Math.min(guess, behind) * driftLimit) {
                    return true;
                }
            }
            return false;
        }

        /** The least DRIFT by which the plan has not drifted. */
        int driftToBear(Kept plan) {
            int most = 0;
            for (int table = 0; table < TABLES && table < plan.guesses.length; table++) {
                if (has(plan.shape, table)) {
                    most = Math.max(most, driftUp(guesses[table], plan.guesses[table]));
                }
            }
            return most;
        }
    }

    /** Sizes, least costs and best orders of all sets of tables; its rows are used again by each reckoning. */
    private static final class Reckoner {
        /** Sizes before they are raised to 1, for a set's size goes on from that of its lower tables. */
        private final long[] products = new long[SETS];
        private final long[] leastCosts = new long[SETS];
        private final int[] bestOrders = new int[SETS];

        Reckoner() {
            products[0] = 1;
        }

        void reckon(int[] numbers, int[][] parts) {
            for (int last = 0; last < TABLES; last++) {
                for (int lower = 0; lower < bit(last); lower++) {
                    long product = products[lower] * numbers[last];
                    for (int earlier = 0; earlier < last; earlier++) {
                        if (has(lower, earlier)) {
                            product = product * parts[earlier][last] / WHOLE;
                        }
                    }
                    products[lower + bit(last)] = product;
                }
            }
            // a set's number is above those of all its parts, so these are planned before it
            for (int set = 1; set < SETS; set++) {
                planSet(set);
            }
        }

        private void planSet(int set) {
            long leastBefore = Long.MAX_VALUE;
            int bestOrder = 0;
            for (int last = 0; last < TABLES; last++) {
                int before = set - bit(last);
                if (has(set, last) && before >= 0 && before < SETS) {
                    int order = longerOrder(bestOrders[before], last);
                    long cost = leastCosts[before];
                    if (cost < leastBefore || cost == leastBefore && order < bestOrder) {
                        leastBefore = cost;
                        bestOrder = order;
                    }
                }
            }
            if (isSet(set)) {
                leastCosts[set] = leastBefore + Math.max(products[set], 1);
                bestOrders[set] = bestOrder;
            }
        }

        long sizeOf(int set) {
            return isSet(set) ? Math.max(products[set], 1) : 0;
        }

        long leastBySets(int shape) {
            return isSet(shape) ? leastCosts[shape] : 0;
        }

        int bestOrder(int shape) {
            return isSet(shape) ? bestOrders[shape] : 0;
        }

        long leastByOrders(int shape) {
            return leastOnward(this, shape, 0, 0);
        }

        /** Tries all orders of the tables that are not yet placed. */
        private static long leastOnward(Reckoner numbers, int shape, int set, int placed) {
            if (set == shape || placed >= TABLES) {
                return 0;
            }
            long least = Long.MAX_VALUE;
            for (int table = 0; table < TABLES; table++) {
                if (has(shape, table) && !has(set, table)) {
                    int longer = set | bit(table);
                    long cost = numbers.sizeOf(longer) + leastOnward(numbers, shape, longer, placed + 1);
                    least = Math.min(least, cost);
                }
            }
            return least;
        }

        long costOf(int shape, int order) {
            int tables = Integer.bitCount(shape);
            long cost = 0;
            int set = 0;
            for (int place = 0; place < tables; place++) {
                set |= bit(tableAt(order, tables, place));
                cost += sizeOf(set);
            }
            return cost;
        }

        long excessOf(int shape, int order) {
            return costOf(shape, order) - leastBySets(shape);
        }
    }

    private static final class Pad {
        private final char[] signs = new char[MOST_SIGNS];
        int length = 0;

        boolean put(char sign) {
            if (length < 0 || length >= signs.length) {
                return false;
            }
            signs[length] = sign;
            length++;
            return true;
        }

        /** Beyond the end it is a sign that no script has, so that readers stop there. */
        char signAt(int place) {
            return place >= 0 && place < length && place < signs.length ? signs[place] : (char) 0;
        }
    }

    /** Reads a pad deed by deed and goes on only over signs that a script can have there: where it stops is the fault. */
    private static final class Reader {
        private final Pad pad;
        private int next = 0;
        int start = 0;
        char letter = 0;
        int tables = 0;
        int table = 0;
        int number = 0;

        Reader(Pad pad) {
            this.pad = pad;
        }

        int findFault() {
            for (int deed = 0; deed < MOST_SIGNS; deed++) {
                if (!readDeed()) {
                    return next;
                }
                if (next >= pad.length) {
                    return NOWHERE;
                }
                if (!readSign(';')) {
                    return next;
                }
            }
            return next;
        }

        boolean readDeed() {
            start = next;
            letter = pad.signAt(next);
            switch (letter) {
                case 'q':
                case 'p':
                    next++;
                    return readTables();
                case 'c':
                    next++;
                    return readTable();
                case 'r':
                    next++;
                    return readTable() && readSign('=') && readNumber();
                default:
                    return false;
            }
        }

        boolean readSign(char due) {
            if (pad.signAt(next) != due) {
                return false;
            }
            next++;
            return true;
        }

        private int digit() {
            return pad.signAt(next) - '0';
        }

        private boolean readTable() {
            if (!isTable(digit())) {
                return false;
            }
            table = digit();
            next++;
            return true;
        }

        private boolean readTables() {
            tables = 0;
            int lowest = 0;
            for (int digits = 0; digits < TABLES; digits++) {
                if (digit() < lowest || !readTable()) {
                    break;
                }
                tables |= bit(table);
                lowest = table + 1;
            }
            return tables > 0;
        }

        private boolean readNumber() {
            number = 0;
            for (int digits = 0; digits < MOST_DIGITS; digits++) {
                int longer = number * 10 + digit();
                if (digit() < 0 || digit() > 9 || longer < 1 || longer > MOST_ROWS) {
                    break;
                }
                number = longer;
                next++;
            }
            return number > 0;
        }
    }
}
