/** Promises 1 to 4 and 14 to 18: tables, parts, sizes, best plans. */
public final class TablesTest {
    private static final Checks CHECKS = new Checks("TablesTest");
    private static final int[] BEYOND_TABLES = {-1, 5, Integer.MIN_VALUE, Integer.MAX_VALUE};
    private static final int[] BEYOND_SETS = {0, -1, 32, Integer.MIN_VALUE, Integer.MAX_VALUE};

    public static void main(String[] args) {
        promise1NewObject();
        promise2Rows();
        promise3Part();
        promise3PartThrowsPlansOut();
        promise4Count();
        promise14Table();
        promise15PartOf();
        promise16Size();
        promise16SizeRoundsDownAtEachStep();
        promise17Least();
        promise18Best();
        CHECKS.end();
    }

    private static void promise1NewObject() {
        DriftPlans plans = new DriftPlans();
        for (int table = 0; table < 5; table++) {
            CHECKS.due("rows at first", plans.table(table, 0), 10);
            CHECKS.due("guess at first", plans.table(table, 1), 10);
            CHECKS.due("drift at first", plans.table(table, 2), 100);
            CHECKS.due("plans with it at first", plans.table(table, 3), 0);
            for (int other = 0; other < 5; other++) {
                if (other != table) {
                    CHECKS.due("part at first", plans.partOf(table, other), 100);
                }
            }
        }
        for (int what = 0; what <= 13; what++) {
            CHECKS.due("counted(" + what + ") at first", plans.counted(what), what == 2 ? 200 : 0);
        }
        CHECKS.dueDouble("fitness at first", plans.fitness(), 1.0);
        CHECKS.due("leastDrift at first", plans.leastDrift(), 100);
        CHECKS.due("undo at first", plans.undo(), DriftPlans.NOT_POSSIBLE);
        CHECKS.due("restore at first", plans.restore(), DriftPlans.NOT_POSSIBLE);
        CHECKS.due("fault at first", plans.fault(), 0);
        CHECKS.due("why at first", plans.why(0), DriftPlans.NOT_FOUND);
        CHECKS.due("plan at first", plans.plan(1, 0), DriftPlans.NOT_FOUND);
    }

    private static void promise2Rows() {
        DriftPlans plans = new DriftPlans();
        CHECKS.due("rows(3, 500)", plans.rows(3, 500), 10);
        CHECKS.due("rows(3, 1)", plans.rows(3, 1), 500);
        CHECKS.due("its rows", plans.table(3, 0), 1);
        CHECKS.due("its guess stays", plans.table(3, 1), 10);
        CHECKS.due("other rows stay", plans.table(2, 0), 10);
        CHECKS.due("rows(3, 1) again is a change too", plans.rows(3, 1), 1);
        CHECKS.due("states", plans.counted(13), 3);
        for (int table : BEYOND_TABLES) {
            CHECKS.due("rows of no table", plans.rows(table, 10), DriftPlans.INVALID_ARGUMENT);
        }
        CHECKS.due("rows(0, 0)", plans.rows(0, 0), DriftPlans.INVALID_ARGUMENT);
        CHECKS.due("rows(0, 501)", plans.rows(0, 501), DriftPlans.INVALID_ARGUMENT);
        CHECKS.due("rows(0, -1)", plans.rows(0, -1), DriftPlans.INVALID_ARGUMENT);
        CHECKS.due("rows(0, least)", plans.rows(0, Integer.MIN_VALUE), DriftPlans.INVALID_ARGUMENT);
        CHECKS.due("errors are no changes", plans.counted(13), 3);
        CHECKS.due("rows after errors", plans.table(0, 0), 10);
    }

    private static void promise3Part() {
        DriftPlans plans = new DriftPlans();
        CHECKS.due("part(4, 1, 1)", plans.part(4, 1, 1), 0);
        CHECKS.due("partOf(4, 1)", plans.partOf(4, 1), 1);
        CHECKS.due("partOf(1, 4)", plans.partOf(1, 4), 1);
        CHECKS.due("part(1, 4, 100)", plans.part(1, 4, 100), 0);
        CHECKS.due("partOf(4, 1) set back", plans.partOf(4, 1), 100);
        CHECKS.due("states", plans.counted(13), 2);
        for (int table : BEYOND_TABLES) {
            CHECKS.due("part of no table", plans.part(table, 1, 5), DriftPlans.INVALID_ARGUMENT);
            CHECKS.due("part with no table", plans.part(1, table, 5), DriftPlans.INVALID_ARGUMENT);
        }
        for (int table = 0; table < 5; table++) {
            CHECKS.due("part with itself", plans.part(table, table, 5), DriftPlans.INVALID_ARGUMENT);
        }
        CHECKS.due("part 0", plans.part(0, 1, 0), DriftPlans.INVALID_ARGUMENT);
        CHECKS.due("part 101", plans.part(0, 1, 101), DriftPlans.INVALID_ARGUMENT);
        CHECKS.due("part -5", plans.part(0, 1, -5), DriftPlans.INVALID_ARGUMENT);
        CHECKS.due("errors are no changes", plans.counted(13), 2);
        CHECKS.due("part after errors", plans.partOf(0, 1), 100);
    }

    private static void promise3PartThrowsPlansOut() {
        DriftPlans plans = new DriftPlans();
        plans.run(0b00011);
        plans.run(0b00111);
        plans.run(0b00101);
        plans.run(0b10011);
        plans.pin(0b10011);
        CHECKS.due("part to what it is", plans.part(1, 0, 100), 2);
        CHECKS.due("kept then", plans.counted(0), 2);
        CHECKS.due("thrown out by parts", plans.counted(9), 2);
        CHECKS.due("not by drift", plans.counted(7), 0);
        CHECKS.due("only one of both tables", plans.plan(0b00101, 7), 1);
        CHECKS.due("a pinned one stays", plans.plan(0b10011, 7), 1);
        CHECKS.due("once more", plans.part(0, 1, 50), 0);
        CHECKS.due("thrown out by parts so far", plans.counted(9), 2);
    }

    private static void promise4Count() {
        DriftPlans plans = new DriftPlans();
        plans.run(0b00001);
        plans.run(0b00011);
        plans.run(0b00010);
        plans.run(0b10001);
        plans.pin(0b10001);
        plans.rows(0, 20);
        CHECKS.due("twice as many is no drift", plans.count(0), 0);
        CHECKS.due("guess then", plans.table(0, 1), 20);
        plans.rows(0, 21);
        CHECKS.due("above twice as many is", plans.count(0), 2);
        CHECKS.due("guess then", plans.table(0, 1), 21);
        CHECKS.due("thrown out so far", plans.counted(7), 2);
        CHECKS.due("without the table it stays", plans.plan(0b00010, 7), 1);
        CHECKS.due("pinned it stays", plans.plan(0b10001, 10), 1);
        CHECKS.due("counted again", plans.count(0), 0);
        plans.rows(1, 4);
        CHECKS.due("less than half as many", plans.count(1), 1);
        for (int table : BEYOND_TABLES) {
            CHECKS.due("count of no table", plans.count(table), DriftPlans.INVALID_ARGUMENT);
        }
        DriftPlans half = new DriftPlans();
        half.run(1);
        half.rows(0, 5);
        CHECKS.due("half as many is no drift", half.count(0), 0);
    }

    private static void promise14Table() {
        DriftPlans plans = new DriftPlans();
        plans.rows(2, 33);
        CHECKS.due("rows", plans.table(2, 0), 33);
        CHECKS.due("guess", plans.table(2, 1), 10);
        CHECKS.due("drift up", plans.table(2, 2), 330);
        plans.rows(2, 3);
        CHECKS.due("drift down, rounded down", plans.table(2, 2), 333);
        plans.rows(2, 500);
        plans.count(2);
        plans.rows(2, 1);
        CHECKS.due("the greatest drift", plans.table(2, 2), 50000);
        plans.run(0b00110);
        plans.run(0b00011);
        CHECKS.due("plans with 2, thrown out at once", plans.table(2, 3), 0);
        CHECKS.due("plans with 1", plans.table(1, 3), 1);
        plans.run(0b01110);
        CHECKS.due("plans with 1 then", plans.table(1, 3), 2);
        CHECKS.due("plans with 2 then", plans.table(2, 3), 1);
        for (int table : BEYOND_TABLES) {
            CHECKS.due("table of no table", plans.table(table, 0), DriftPlans.INVALID_ARGUMENT);
        }
        for (int what : new int[] {-1, 4, Integer.MIN_VALUE, Integer.MAX_VALUE}) {
            CHECKS.due("table of no number", plans.table(0, what), DriftPlans.INVALID_ARGUMENT);
        }
    }

    private static void promise15PartOf() {
        DriftPlans plans = new DriftPlans();
        int part = 1;
        for (int table = 0; table < 5; table++) {
            for (int other = table + 1; other < 5; other++) {
                plans.part(other, table, part);
                part += 7;
            }
        }
        part = 1;
        for (int table = 0; table < 5; table++) {
            for (int other = table + 1; other < 5; other++) {
                CHECKS.due("partOf", plans.partOf(table, other), part);
                CHECKS.due("partOf the other way", plans.partOf(other, table), part);
                part += 7;
            }
            CHECKS.due("partOf itself", plans.partOf(table, table), DriftPlans.INVALID_ARGUMENT);
        }
        for (int table : BEYOND_TABLES) {
            CHECKS.due("partOf no table", plans.partOf(table, 0), DriftPlans.INVALID_ARGUMENT);
            CHECKS.due("partOf with no table", plans.partOf(0, table), DriftPlans.INVALID_ARGUMENT);
        }
    }

    private static void promise16Size() {
        DriftPlans plans = new DriftPlans();
        for (int table = 0; table < 5; table++) {
            plans.rows(table, 20 + table);
            CHECKS.due("size of one by rows", plans.size(1 << table, true), 20 + table);
            CHECKS.due("size of one by guesses", plans.size(1 << table, false), 10);
        }
        CHECKS.due("size of two by rows", plans.size(0b10010, true), 21 * 24);
        CHECKS.due("size of five by guesses", plans.size(31, false), 100000);
        plans.part(1, 4, 25);
        CHECKS.due("size through a join", plans.size(0b10010, true), 21 * 24 / 4);
        CHECKS.due("size of three", plans.size(0b10110, true), 21 * 22 * 24 * 25 / 100);
        for (int table = 0; table < 5; table++) {
            plans.rows(table, 500);
        }
        CHECKS.due("above what is told", plans.size(0b01111, true), 1000000000);
        CHECKS.due("not above", plans.size(0b01101, true), 125000000);
        for (int set : BEYOND_SETS) {
            CHECKS.due("size of no set", plans.size(set, true), DriftPlans.INVALID_ARGUMENT);
            CHECKS.due("size of no set", plans.size(set, false), DriftPlans.INVALID_ARGUMENT);
        }
    }

    private static void promise16SizeRoundsDownAtEachStep() {
        DriftPlans plans = new DriftPlans();
        plans.rows(0, 1);
        plans.rows(1, 1);
        plans.rows(2, 500);
        plans.part(0, 1, 99);
        CHECKS.due("at least 1", plans.size(0b00011, true), 1);
        CHECKS.due("nothing goes on as nothing", plans.size(0b00111, true), 1);
        CHECKS.due("but without them", plans.size(0b00101, true), 500);
        DriftPlans steps = new DriftPlans();
        steps.rows(0, 3);
        steps.rows(1, 1);
        steps.rows(2, 5);
        steps.part(0, 1, 50);
        steps.part(0, 2, 30);
        steps.part(1, 2, 90);
        // 3; 3 * 1 * 50 / 100 = 1; 1 * 5 = 5, * 30 / 100 = 1, * 90 / 100 = 0
        CHECKS.due("rounded down thrice", steps.size(0b00111, true), 1);
        steps.part(1, 2, 100);
        steps.rows(2, 500);
        // 1 * 500 = 500, * 30 / 100 = 150
        CHECKS.due("rounded down once", steps.size(0b00111, true), 150);
    }

    private static void promise17Least() {
        DriftPlans plans = new DriftPlans();
        CHECKS.due("one table", plans.least(0b01000, true, 0), 10);
        CHECKS.due("five tables", plans.least(31, true, 0), 111110);
        plans.rows(0, 100);
        plans.rows(1, 2);
        CHECKS.due("the small one first", plans.least(0b00011, true, 0), 202);
        CHECKS.due("by guesses", plans.least(0b00011, false, 0), 110);
        plans.rows(2, 100);
        plans.part(0, 2, 1);
        // 0, 2, 1: 100 + 100 + 200; 1, 0, 2: 2 + 200 + 200
        CHECKS.due("a join ahead", plans.least(0b00111, true, 0), 400);
        for (int table = 0; table < 5; table++) {
            plans.rows(table, 500);
        }
        CHECKS.due("above what is told", plans.least(31, true, 1), 1000000000);
        for (int shape = 1; shape < 32; shape++) {
            CHECKS.due("told by sets", plans.least(shape, true, 1), plans.least(shape, true, 0));
            CHECKS.due("told by sets", plans.least(shape, false, 1), plans.least(shape, false, 0));
        }
        for (int set : BEYOND_SETS) {
            CHECKS.due("least of no shape", plans.least(set, true, 0), DriftPlans.INVALID_ARGUMENT);
        }
        CHECKS.due("way -1", plans.least(1, true, -1), DriftPlans.INVALID_ARGUMENT);
        CHECKS.due("way 2", plans.least(1, true, 2), DriftPlans.INVALID_ARGUMENT);
    }

    private static void promise18Best() {
        DriftPlans plans = new DriftPlans();
        for (int place = 0; place < 5; place++) {
            CHECKS.due("of equal ones the first tables", plans.best(31, true, place), place);
        }
        CHECKS.due("beyond the last one", plans.best(31, true, 5), DriftPlans.NOT_FOUND);
        CHECKS.due("far beyond", plans.best(31, true, Integer.MAX_VALUE), DriftPlans.NOT_FOUND);
        CHECKS.due("of one table", plans.best(0b10000, false, 0), 4);
        CHECKS.due("of one table, the second", plans.best(0b10000, false, 1), DriftPlans.NOT_FOUND);
        plans.rows(0, 100);
        plans.rows(3, 2);
        plans.rows(4, 2);
        int[] order = {3, 4, 1, 2, 0};
        for (int place = 0; place < 5; place++) {
            CHECKS.due("by rows", plans.best(31, true, place), order[place]);
            CHECKS.due("by guesses", plans.best(31, false, place), place);
        }
        CHECKS.due("place -1", plans.best(31, true, -1), DriftPlans.INVALID_ARGUMENT);
        CHECKS.due("place least", plans.best(1, true, Integer.MIN_VALUE), DriftPlans.INVALID_ARGUMENT);
        for (int set : BEYOND_SETS) {
            CHECKS.due("best of no shape", plans.best(set, true, 0), DriftPlans.INVALID_ARGUMENT);
            CHECKS.due("best of no shape", plans.best(set, true, 9), DriftPlans.INVALID_ARGUMENT);
        }
        tiesGoByTheFirstTables();
    }

    /** Told from the last table on, a plan that begins with 2 would win. */
    private static void tiesGoByTheFirstTables() {
        DriftPlans plans = new DriftPlans();
        plans.rows(0, 4);
        plans.rows(1, 4);
        plans.rows(2, 4);
        plans.part(0, 1, 25);
        plans.part(0, 2, 50);
        plans.part(1, 2, 25);
        // sizes: {0,1} 4, {0,2} 8, {1,2} 4; 0, 1, 2 costs what 1, 0, 2 and 1, 2, 0 and 2, 1, 0 do
        CHECKS.due("first", plans.best(0b00111, true, 0), 0);
        CHECKS.due("second", plans.best(0b00111, true, 1), 1);
        CHECKS.due("third", plans.best(0b00111, true, 2), 2);
        plans.part(0, 1, 100);
        // only 1, 2, 0 and 2, 1, 0 are left
        CHECKS.due("first then", plans.best(0b00111, true, 0), 1);
        CHECKS.due("second then", plans.best(0b00111, true, 1), 2);
    }
}
