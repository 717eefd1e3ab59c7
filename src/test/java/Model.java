import java.util.ArrayList;
import java.util.Arrays;
import java.util.Comparator;
import java.util.List;
import java.util.regex.Matcher;
import java.util.regex.Pattern;

/**
 * The document once more, slow and told in other ways than the class: all orders are written out, the plan run longest
 * ago is found by the numbers of its runs, faults are found by trying what could follow.
 */
final class Model {
    private static final String TABLES = "(?=[0-4])0?1?2?3?4?";
    private static final String DEED = "(?:[qp]" + TABLES + "|r[0-4]=(?:[1-9]|[1-9][0-9]|[1-4][0-9][0-9]|500)|c[0-4])";
    private static final Pattern SCRIPT = Pattern.compile(DEED + "(?:;" + DEED + ")*");
    private static final String[] ENDINGS = {"", "0", "1", "=1", "0=1", "q0"};

    private static final class Plan {
        int shape;
        List<Integer> order;
        int[] guesses;
        int runs;
        long lastRun;
        boolean pinned;

        Plan copy() {
            Plan copy = new Plan();
            copy.shape = shape;
            copy.order = order;
            copy.guesses = guesses;
            copy.runs = runs;
            copy.lastRun = lastRun;
            copy.pinned = pinned;
            return copy;
        }
    }

    private static final class World {
        int[] rows = {10, 10, 10, 10, 10};
        int[] guesses = {10, 10, 10, 10, 10};
        int[] parts = new int[32];
        List<Plan> plans = new ArrayList<>();
        int drift = 200;
        long clock = 0;
        /** By the numbers of counted(). */
        long[] accounts = new long[12];

        World copy() {
            World copy = new World();
            copy.rows = rows.clone();
            copy.guesses = guesses.clone();
            copy.parts = parts.clone();
            for (Plan plan : plans) {
                copy.plans.add(plan.copy());
            }
            copy.drift = drift;
            copy.clock = clock;
            copy.accounts = accounts.clone();
            return copy;
        }
    }

    private World world = new World();
    private World snapshot = null;
    private final List<World> history = new ArrayList<>();
    private String pad = "";
    private int[] stop = null;

    Model() {
        Arrays.fill(world.parts, 100);
    }

    private static boolean within(int number, int least, int most) {
        return least <= number && number <= most;
    }

    private static int told(long number) {
        return number > 1000000000L ? 1000000000 : (int) number;
    }

    private static List<Integer> tablesOf(int set) {
        List<Integer> tables = new ArrayList<>();
        for (int table = 0; table < 5; table++) {
            if ((set & 1 << table) != 0) {
                tables.add(table);
            }
        }
        return tables;
    }

    private long sizeOf(int set, int[] numbers) {
        long size = 1;
        List<Integer> tables = tablesOf(set);
        for (int table : tables) {
            size *= numbers[table];
            for (int earlier : tables) {
                if (earlier < table) {
                    size = size * world.parts[1 << earlier | 1 << table] / 100;
                }
            }
        }
        return size < 1 ? 1 : size;
    }

    private long costOf(List<Integer> order, int[] numbers) {
        long cost = 0;
        int set = 0;
        for (int table : order) {
            set += 1 << table;
            cost += sizeOf(set, numbers);
        }
        return cost;
    }

    /** All orders by rising first tables, of these by rising second ones, and so on. */
    private static List<List<Integer>> ordersOf(List<Integer> tables) {
        List<List<Integer>> orders = new ArrayList<>();
        if (tables.isEmpty()) {
            orders.add(new ArrayList<>());
        }
        for (Integer first : tables) {
            List<Integer> others = new ArrayList<>(tables);
            others.remove(first);
            for (List<Integer> rest : ordersOf(others)) {
                List<Integer> order = new ArrayList<>();
                order.add(first);
                order.addAll(rest);
                orders.add(order);
            }
        }
        return orders;
    }

    private List<Integer> bestOf(int shape, int[] numbers) {
        List<Integer> best = null;
        for (List<Integer> order : ordersOf(tablesOf(shape))) {
            if (best == null || costOf(order, numbers) < costOf(best, numbers)) {
                best = order;
            }
        }
        return best;
    }

    private long leastOf(int shape, int[] numbers) {
        return costOf(bestOf(shape, numbers), numbers);
    }

    private Plan planOf(int shape) {
        for (Plan plan : world.plans) {
            if (plan.shape == shape) {
                return plan;
            }
        }
        return null;
    }

    private boolean drifted(Plan plan, int[] guesses, int drift) {
        for (int table : tablesOf(plan.shape)) {
            int one = guesses[table];
            int other = plan.guesses[table];
            int greater = one > other ? one : other;
            int lesser = one > other ? other : one;
            if (greater * 100 > lesser * drift) {
                return true;
            }
        }
        return false;
    }

    private int throwOut() {
        int before = world.plans.size();
        world.plans.removeIf(plan -> !plan.pinned && drifted(plan, world.guesses, world.drift));
        world.accounts[7] += before - world.plans.size();
        return before - world.plans.size();
    }

    private void remember() {
        history.add(world.copy());
        if (history.size() == 5) {
            history.remove(0);
        }
    }

    private int doCount(int table) {
        world.guesses[table] = world.rows[table];
        return throwOut();
    }

    private long doRun(int shape) {
        long making = 0;
        world.clock++;
        Plan plan = planOf(shape);
        if (plan != null) {
            world.accounts[3]++;
        } else {
            world.accounts[4]++;
            making = 10L * tablesOf(shape).size();
            plan = new Plan();
            plan.shape = shape;
            plan.order = bestOf(shape, world.guesses);
            plan.guesses = world.guesses.clone();
            if (world.plans.size() == 4) {
                Plan oldest = null;
                for (Plan kept : world.plans) {
                    if (!kept.pinned && (oldest == null || kept.lastRun < oldest.lastRun)) {
                        oldest = kept;
                    }
                }
                if (oldest != null) {
                    world.plans.remove(oldest);
                    world.accounts[8]++;
                } else {
                    world.accounts[11]++;
                }
            }
            if (world.plans.size() < 4) {
                world.plans.add(plan);
            }
        }
        plan.runs++;
        plan.lastRun = world.clock;
        long cost = costOf(plan.order, world.rows);
        world.accounts[5] += cost;
        world.accounts[6] += making;
        for (int table : tablesOf(shape)) {
            world.guesses[table] = world.rows[table];
        }
        throwOut();
        return cost + making;
    }

    int rows(int table, int rows) {
        if (!within(table, 0, 4) || !within(rows, 1, 500)) {
            return -1;
        }
        remember();
        int before = world.rows[table];
        world.rows[table] = rows;
        return before;
    }

    int part(int table, int other, int part) {
        if (!within(table, 0, 4) || !within(other, 0, 4) || table == other || !within(part, 1, 100)) {
            return -1;
        }
        remember();
        world.parts[1 << table | 1 << other] = part;
        int before = world.plans.size();
        world.plans.removeIf(plan -> !plan.pinned && tablesOf(plan.shape).containsAll(List.of(table, other)));
        world.accounts[9] += before - world.plans.size();
        return before - world.plans.size();
    }

    int count(int table) {
        if (!within(table, 0, 4)) {
            return -1;
        }
        remember();
        return doCount(table);
    }

    int run(int shape) {
        if (!within(shape, 1, 31)) {
            return -1;
        }
        remember();
        return told(doRun(shape));
    }

    int pin(int shape) {
        if (!within(shape, 1, 31)) {
            return -1;
        }
        if (planOf(shape) == null) {
            return -2;
        }
        remember();
        Plan plan = planOf(shape);
        plan.pinned = !plan.pinned;
        throwOut();
        return plan.pinned ? 1 : 0;
    }

    int forget(int shape) {
        if (!within(shape, 1, 31)) {
            return -1;
        }
        if (planOf(shape) == null) {
            return -2;
        }
        remember();
        Plan plan = planOf(shape);
        world.plans.remove(plan);
        world.accounts[10]++;
        return plan.runs;
    }

    int drift(int drift) {
        if (!within(drift, 100, 1000)) {
            return -1;
        }
        remember();
        world.drift = drift;
        return throwOut();
    }

    int append(int code) {
        if (!within(code, 33, 126)) {
            return -1;
        }
        if (pad.length() == 60) {
            return -3;
        }
        pad += (char) code;
        return pad.length();
    }

    int clear() {
        int before = pad.length();
        pad = "";
        return before;
    }

    private static boolean canBegin(String text) {
        for (String ending : ENDINGS) {
            if (SCRIPT.matcher(text + ending).matches()) {
                return true;
            }
        }
        return false;
    }

    int fault() {
        for (int length = 1; length <= pad.length(); length++) {
            if (!canBegin(pad.substring(0, length))) {
                return length - 1;
            }
        }
        Matcher whole = SCRIPT.matcher(pad);
        return whole.matches() ? -4 : pad.length();
    }

    private static int setOf(String digits) {
        int set = 0;
        for (char digit : digits.toCharArray()) {
            set |= 1 << digit - '0';
        }
        return set;
    }

    int carryOut() {
        if (fault() != -4) {
            return -2;
        }
        remember();
        stop = null;
        int done = 0;
        int place = 0;
        for (String deed : pad.split(";")) {
            if (deed.charAt(0) == 'q') {
                doRun(setOf(deed.substring(1)));
            } else if (deed.charAt(0) == 'r') {
                world.rows[deed.charAt(1) - '0'] = Integer.parseInt(deed.substring(3));
            } else if (deed.charAt(0) == 'c') {
                doCount(deed.charAt(1) - '0');
            } else if (planOf(setOf(deed.substring(1))) != null) {
                planOf(setOf(deed.substring(1))).pinned = true;
            } else {
                stop = new int[] {done, place};
                break;
            }
            done++;
            place += deed.length() + 1;
        }
        pad = "";
        return done;
    }

    int why(int what) {
        if (!within(what, 0, 1)) {
            return -1;
        }
        return stop == null ? -4 : stop[what];
    }

    int table(int table, int what) {
        if (!within(table, 0, 4) || !within(what, 0, 3)) {
            return -1;
        }
        int rows = world.rows[table];
        int guess = world.guesses[table];
        if (what == 0) {
            return rows;
        }
        if (what == 1) {
            return guess;
        }
        if (what == 2) {
            return rows > guess ? rows * 100 / guess : guess * 100 / rows;
        }
        return (int) world.plans.stream().filter(plan -> tablesOf(plan.shape).contains(table)).count();
    }

    int partOf(int table, int other) {
        if (!within(table, 0, 4) || !within(other, 0, 4) || table == other) {
            return -1;
        }
        return world.parts[1 << table | 1 << other];
    }

    private int[] numbers(boolean byRows) {
        return byRows ? world.rows : world.guesses;
    }

    int size(int set, boolean byRows) {
        return within(set, 1, 31) ? told(sizeOf(set, numbers(byRows))) : -1;
    }

    int least(int shape, boolean byRows, int way) {
        return within(shape, 1, 31) && within(way, 0, 1) ? told(leastOf(shape, numbers(byRows))) : -1;
    }

    int best(int shape, boolean byRows, int place) {
        if (!within(shape, 1, 31) || place < 0) {
            return -1;
        }
        List<Integer> order = bestOf(shape, numbers(byRows));
        return place < order.size() ? order.get(place) : -4;
    }

    int plan(int shape, int what) {
        if (!within(shape, 1, 31) || !within(what, 0, 11)) {
            return -1;
        }
        Plan plan = planOf(shape);
        if (plan == null) {
            return -4;
        }
        switch (what) {
            case 5:
                return told(costOf(plan.order, world.rows));
            case 6:
                return told(costOf(plan.order, world.guesses));
            case 7:
                return plan.runs;
            case 8:
                return plan.pinned ? 1 : 0;
            case 9:
                return told(costOf(plan.order, world.rows) - leastOf(shape, world.rows));
            case 10:
                return drifted(plan, world.guesses, world.drift) ? 1 : 0;
            case 11:
                List<Plan> byRuns = new ArrayList<>(world.plans);
                byRuns.sort(Comparator.comparingLong(kept -> kept.lastRun));
                return byRuns.indexOf(plan);
            default:
                return what < plan.order.size() ? plan.order.get(what) : -4;
        }
    }

    int counted(int what) {
        if (!within(what, 0, 13)) {
            return -1;
        }
        switch (what) {
            case 0:
                return world.plans.size();
            case 1:
                return (int) world.plans.stream().filter(plan -> plan.pinned).count();
            case 2:
                return world.drift;
            case 12:
                return pad.length();
            case 13:
                return history.size();
            default:
                return told(world.accounts[what]);
        }
    }

    double fitness() {
        long leasts = 0;
        long costs = 0;
        for (Plan plan : world.plans) {
            leasts += leastOf(plan.shape, world.rows);
            costs += costOf(plan.order, world.rows);
        }
        return world.plans.isEmpty() ? 1.0 : (double) leasts / costs;
    }

    int ifCounted(int set, int what) {
        if (!within(set, 1, 31) || !within(what, 0, 1)) {
            return -1;
        }
        World before = world;
        world = world.copy();
        int thrownOut = 0;
        for (int table : tablesOf(set)) {
            thrownOut += doCount(table);
        }
        int dearer = 0;
        for (Plan plan : world.plans) {
            if (costOf(plan.order, world.rows) > leastOf(plan.shape, world.rows)) {
                dearer++;
            }
        }
        world = before;
        return what == 0 ? thrownOut : dearer;
    }

    int ifRun(int shape) {
        if (!within(shape, 1, 31)) {
            return -1;
        }
        World before = world;
        world = world.copy();
        int cost = told(doRun(shape));
        world = before;
        return cost;
    }

    int leastDrift() {
        for (int drift = 100; drift <= 1000; drift++) {
            boolean all = true;
            for (Plan plan : world.plans) {
                all &= plan.pinned || !drifted(plan, world.guesses, drift);
            }
            if (all) {
                return drift;
            }
        }
        return -4;
    }

    int undo() {
        if (history.isEmpty()) {
            return -2;
        }
        world = history.remove(history.size() - 1);
        return history.size();
    }

    int save() {
        snapshot = world.copy();
        return world.plans.size();
    }

    int restore() {
        if (snapshot == null) {
            return -2;
        }
        remember();
        world = snapshot.copy();
        return world.plans.size();
    }
}
