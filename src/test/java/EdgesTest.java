/**
 * The boundary cases that promises 1 to 8 and 14 to 24 name: a test for each argument's first and last value, for each
 * answer that is the least or the greatest, and for what stands in brackets. What is refused stands in RefusedCallsTest.
 */
public final class EdgesTest {
    private static final Checks CHECKS = new Checks("EdgesTest");
    private static final int INVALID = DriftPlans.INVALID_ARGUMENT;
    private static final int NONE = DriftPlans.NOT_FOUND;

    public static void main(String[] args) {
        newObjects();
        tables();
        queries();
        looksAtTables();
        looksAtBestPlans();
        looksAtKeptPlans();
        looksAtAccounts();
        whatWouldBe();
        CHECKS.end();
    }

    // ---- promise 1

    private static void newObjects() {
        CHECKS.test("Creates tables with 10 rows each", () -> CHECKS.due("size", new DriftPlans().size(31, true), 100000));
        CHECKS.test("without kept plans", EdgesTest::withoutPlans);
        CHECKS.test("one object knows nothing of another one", EdgesTest::twoObjects);
    }

    private static void withoutPlans() {
        DriftPlans plans = new DriftPlans();
        for (int shape = 1; shape <= 31; shape++) {
            CHECKS.due("plan of " + shape, plans.plan(shape, 7), NONE);
        }
        CHECKS.due("kept", plans.counted(0), 0);
    }

    private static void twoObjects() {
        DriftPlans first = new DriftPlans();
        String before = Scenes.looks(first);
        DriftPlans busy = Scenes.busy();
        CHECKS.dueText("the first one", Scenes.looks(first), before);
        CHECKS.dueText("a new one", Scenes.looks(new DriftPlans()), before);
        CHECKS.due("rows of the busy one", busy.table(0, 0), 12);
    }

    // ---- promises 2 to 4

    private static void tables() {
        CHECKS.test("Changes the rows of a table (its guess stays)", EdgesTest::guessStays);
        CHECKS.test("Returns the rows before: also the same", EdgesTest::sameRows);
        CHECKS.test("other: 0 to 4, another one", EdgesTest::eachJoin);
        CHECKS.test("Returns how many plans are thrown out by that: part, 0 to 4", EdgesTest::thrownOutByPart);
        CHECKS.test("Returns how many plans are thrown out by that: count, 0 to 4", EdgesTest::thrownOutByCount);
        CHECKS.test("Counts a table: no other one", EdgesTest::countsOneTable);
    }

    private static void guessStays() {
        DriftPlans plans = Scenes.withPlans(1);
        plans.rows(0, 500);
        CHECKS.due("guess", plans.table(0, 1), 10);
        CHECKS.due("not drifted", plans.plan(1, 10), 0);
        CHECKS.due("not thrown out", plans.counted(7), 0);
    }

    private static void sameRows() {
        DriftPlans plans = new DriftPlans();
        CHECKS.due("to 500", plans.rows(4, 500), 10);
        CHECKS.due("to what it is", plans.rows(4, 500), 500);
        CHECKS.due("to 1", plans.rows(4, 1), 500);
        CHECKS.due("to what it is", plans.rows(4, 1), 1);
    }

    private static void eachJoin() {
        DriftPlans plans = new DriftPlans();
        for (int table = 0; table < 5; table++) {
            for (int other = 0; other < 5; other++) {
                int part = 10 + table * other + table + other;
                CHECKS.due("part", plans.part(table, other, part), table == other ? INVALID : 0);
                CHECKS.due("one way", plans.partOf(table, other), table == other ? INVALID : part);
                CHECKS.due("the other way", plans.partOf(other, table), table == other ? INVALID : part);
            }
        }
    }

    private static void thrownOutByPart() {
        int[] shapes = {0b00011, 0b00111, 0b01011, 0b11111};
        for (int kept = 0; kept <= 4; kept++) {
            DriftPlans plans = new DriftPlans();
            for (int shape = 0; shape < kept; shape++) {
                plans.run(shapes[shape]);
            }
            CHECKS.due("thrown out", plans.part(1, 0, 9), kept);
            CHECKS.due("thrown out so far", plans.counted(9), kept);
            CHECKS.due("not by drift", plans.counted(7), 0);
            CHECKS.due("kept", plans.counted(0), 0);
        }
    }

    private static void thrownOutByCount() {
        int[] shapes = {0b00001, 0b00011, 0b10001, 0b11111};
        for (int kept = 0; kept <= 4; kept++) {
            DriftPlans plans = new DriftPlans();
            for (int shape = 0; shape < kept; shape++) {
                plans.run(shapes[shape]);
            }
            CHECKS.due("thrown out", Scenes.countAt(plans, 0, 21), kept);
            CHECKS.due("thrown out so far", plans.counted(7), kept);
            CHECKS.due("kept", plans.counted(0), 0);
            CHECKS.due("once more", plans.count(0), 0);
        }
    }

    private static void countsOneTable() {
        DriftPlans plans = Scenes.withRows(20, 20, 20, 20, 20);
        plans.count(2);
        for (int table = 0; table < 5; table++) {
            CHECKS.due("guess of " + table, plans.table(table, 1), table == 2 ? 20 : 10);
        }
    }

    // ---- promises 5 to 8

    private static void queries() {
        CHECKS.test("Runs a query. shape: 1 to 31", EdgesTest::eachShapeIsRun);
        CHECKS.test("Returns what the run costs, with making the plan, if it is made", EdgesTest::leastCost);
        CHECKS.test("or lets it loose, if it is pinned", EdgesTest::pinnedAndLoose);
        CHECKS.test("(then it is thrown out, if it drifted)", EdgesTest::looseAndDrifted);
        CHECKS.test("(then it is thrown out, if it drifted): not if it is pinned", EdgesTest::pinnedThoughDrifting);
        CHECKS.test("a pin is no run", EdgesTest::pinIsNoRun);
        CHECKS.test("NOT_POSSIBLE if no plan is kept for the shape: pin", EdgesTest::pinOfNone);
        CHECKS.test("Forgets a kept plan, pinned or not", EdgesTest::forgetsPinned);
        CHECKS.test("Returns how often it was run: once, and often", EdgesTest::forgetsRuns);
        CHECKS.test("NOT_POSSIBLE if no plan is kept for the shape: forget", EdgesTest::forgetOfNone);
        CHECKS.test("Returns how many plans are thrown out by that: drift, 0 to 4", EdgesTest::thrownOutByDrift);
    }

    private static void eachShapeIsRun() {
        for (int shape = 1; shape <= 31; shape++) {
            DriftPlans plans = new DriftPlans();
            int due = plans.least(shape, true, 0);
            CHECKS.due("a miss of " + shape, plans.run(shape), due + 10 * Integer.bitCount(shape));
            CHECKS.due("a hit of " + shape, plans.run(shape), due);
            CHECKS.due("hits", plans.counted(3), 1);
            CHECKS.due("misses", plans.counted(4), 1);
            CHECKS.due("kept", plans.counted(0), 1);
        }
    }

    private static void leastCost() {
        DriftPlans plans = Scenes.withRows(1);
        Scenes.countAt(plans, 0, 1);
        CHECKS.due("the least miss", plans.run(1), 11);
        CHECKS.due("the least hit", plans.run(1), 1);
        CHECKS.due("ifRun", plans.ifRun(1), 1);
    }

    private static void pinnedAndLoose() {
        DriftPlans plans = Scenes.withPlans(1);
        for (int time = 0; time < 6; time++) {
            CHECKS.due("pin", plans.pin(1), 1 - time % 2);
            CHECKS.due("pinned", plans.plan(1, 8), 1 - time % 2);
            CHECKS.due("pinned ones", plans.counted(1), 1 - time % 2);
        }
        CHECKS.due("kept", plans.counted(0), 1);
    }

    private static DriftPlans pinnedAt(int guess) {
        DriftPlans plans = Scenes.withPlans(1, 3);
        plans.pin(1);
        plans.pin(3);
        Scenes.countAt(plans, 0, guess);
        return plans;
    }

    private static void looseAndDrifted() {
        for (int guess : new int[] {4, 21}) {
            DriftPlans plans = pinnedAt(guess);
            CHECKS.due("let loose", plans.pin(1), 0);
            CHECKS.due("thrown out", plans.plan(1, 8), NONE);
            CHECKS.due("told as drifted", plans.counted(7), 1);
            CHECKS.due("the other one", plans.plan(3, 8), 1);
        }
        for (int guess : new int[] {5, 20}) {
            DriftPlans plans = pinnedAt(guess);
            CHECKS.due("let loose", plans.pin(1), 0);
            CHECKS.due("just not drifted", plans.plan(1, 8), 0);
            CHECKS.due("none as drifted", plans.counted(7), 0);
        }
    }

    private static void pinnedThoughDrifting() {
        DriftPlans plans = Scenes.withPlans(1);
        Scenes.countAt(plans, 0, 20);
        CHECKS.due("pinned", plans.pin(1), 1);
        Scenes.countAt(plans, 0, 21);
        CHECKS.due("kept", plans.plan(1, 10), 1);
        CHECKS.due("none as drifted", plans.counted(7), 0);
    }

    private static void pinIsNoRun() {
        DriftPlans plans = Scenes.withPlans(1, 2);
        plans.pin(1);
        CHECKS.due("place", plans.plan(1, 11), 0);
        CHECKS.due("runs", plans.plan(1, 7), 1);
        Scenes.carryOut(plans, "p1;p0");
        CHECKS.due("place by a script", plans.plan(1, 11), 0);
    }

    private static void pinOfNone() {
        DriftPlans plans = Scenes.withPlans(3);
        for (int shape = 1; shape <= 31; shape++) {
            CHECKS.due("pin of " + shape, plans.pin(shape), shape == 3 ? 1 : DriftPlans.NOT_POSSIBLE);
        }
        CHECKS.due("states", plans.counted(13), 2);
    }

    private static void forgetsPinned() {
        DriftPlans plans = pinnedAt(500);
        CHECKS.due("drifted and pinned", plans.forget(1), 1);
        CHECKS.due("gone", plans.plan(1, 7), NONE);
        CHECKS.due("forgotten", plans.counted(10), 1);
        CHECKS.due("not by drift", plans.counted(7), 0);
        CHECKS.due("the other one", plans.plan(3, 11), 0);
    }

    private static void forgetsRuns() {
        CHECKS.due("once", Scenes.withPlans(16).forget(16), 1);
        DriftPlans plans = new DriftPlans();
        for (int time = 0; time < 400; time++) {
            plans.run(31);
        }
        CHECKS.due("often", plans.forget(31), 400);
        plans.run(31);
        CHECKS.due("from the first one again", plans.forget(31), 1);
    }

    private static void forgetOfNone() {
        DriftPlans plans = Scenes.withPlans(3);
        CHECKS.due("a part of it", plans.forget(1), DriftPlans.NOT_POSSIBLE);
        CHECKS.due("more than it", plans.forget(7), DriftPlans.NOT_POSSIBLE);
        CHECKS.due("it", plans.forget(3), 1);
        CHECKS.due("it again", plans.forget(3), DriftPlans.NOT_POSSIBLE);
        CHECKS.due("forgotten", plans.counted(10), 1);
    }

    private static void thrownOutByDrift() {
        int[] shapes = {0b00001, 0b00011, 0b10001, 0b11111};
        for (int kept = 0; kept <= 4; kept++) {
            DriftPlans plans = new DriftPlans();
            for (int shape = 0; shape < kept; shape++) {
                plans.run(shapes[shape]);
            }
            Scenes.countAt(plans, 0, 11);
            CHECKS.due("thrown out", plans.drift(100), kept);
            CHECKS.due("thrown out so far", plans.counted(7), kept);
            CHECKS.due("kept", plans.counted(0), 0);
        }
    }

    // ---- promises 14 to 16

    private static void looksAtTables() {
        CHECKS.test("what: 0 to 3 of a table", EdgesTest::numbersOfTables);
        CHECKS.test("how much its rows drifted: none, and the most", EdgesTest::driftOfTables);
        CHECKS.test("how many kept plans have it: 0 to 4", EdgesTest::plansWithTables);
        CHECKS.test("the part that the join of two tables lets through: 1 and 100", EdgesTest::edgeParts);
        CHECKS.test("set: 1 to 31; by the rows, otherwise by the guesses", EdgesTest::sizeOfEachSet);
    }

    private static void numbersOfTables() {
        DriftPlans plans = Scenes.withRows(1, 2, 3, 4, 500);
        CHECKS.due("rows of the first table", plans.table(0, 0), 1);
        CHECKS.due("rows of the last table", plans.table(4, 0), 500);
        CHECKS.due("guess of the last table", plans.table(4, 1), 10);
        CHECKS.due("drift of the last table", plans.table(4, 2), 5000);
        CHECKS.due("plans with the last table", plans.table(4, 3), 0);
        CHECKS.due("what -1", plans.table(4, -1), INVALID);
        CHECKS.due("what 4", plans.table(4, 4), INVALID);
    }

    private static void driftOfTables() {
        DriftPlans plans = new DriftPlans();
        CHECKS.due("none", plans.table(0, 2), 100);
        Scenes.countAt(plans, 0, 1);
        plans.rows(0, 500);
        CHECKS.due("1 to 500", plans.table(0, 2), 50000);
        plans.count(0);
        CHECKS.due("none when it is counted", plans.table(0, 2), 100);
        plans.rows(0, 1);
        CHECKS.due("500 to 1", plans.table(0, 2), 50000);
        plans.rows(0, 499);
        CHECKS.due("500 to 499", plans.table(0, 2), 100);
    }

    private static void plansWithTables() {
        DriftPlans plans = new DriftPlans();
        int[] shapes = {0b10000, 0b10001, 0b11111, 0b10010, 0b11000};
        for (int run = 0; run < shapes.length; run++) {
            CHECKS.due("with the table 4", plans.table(4, 3), run);
            plans.run(shapes[run]);
        }
        CHECKS.due("with the table 4, one pushed out", plans.table(4, 3), 4);
        CHECKS.due("with the table 0", plans.table(0, 3), 2);
        plans.pin(31);
        CHECKS.due("with the table 2, pinned", plans.table(2, 3), 1);
    }

    private static void edgeParts() {
        DriftPlans plans = new DriftPlans();
        plans.part(0, 4, 1);
        CHECKS.due("the least", plans.partOf(4, 0), 1);
        plans.part(0, 4, 100);
        CHECKS.due("the greatest", plans.partOf(0, 4), 100);
        CHECKS.due("of the same table", plans.partOf(4, 4), INVALID);
    }

    private static void sizeOfEachSet() {
        DriftPlans plans = Scenes.withRows(2, 3, 5, 7, 11);
        int[] rows = {2, 3, 5, 7, 11};
        for (int set = 1; set <= 31; set++) {
            int byRows = 1;
            int byGuesses = 1;
            for (int table = 0; table < 5; table++) {
                if ((set & 1 << table) != 0) {
                    byRows *= rows[table];
                    byGuesses *= 10;
                }
            }
            CHECKS.due("by rows", plans.size(set, true), byRows);
            CHECKS.due("by guesses", plans.size(set, false), byGuesses);
        }
    }

    // ---- promises 17 and 18

    private static void looksAtBestPlans() {
        CHECKS.test("way: 0 and 1 (the same for both)", EdgesTest::bothWays);
        CHECKS.test("the cost of the best plan: the least of all", EdgesTest::leastOfAll);
        CHECKS.test("place: 0 for the first table, and so on", EdgesTest::placesOfEachShape);
        CHECKS.test("(also if place is below 0)", EdgesTest::placeBelow0);
        CHECKS.test("NOT_FOUND if the shape has not so many", EdgesTest::placesBeyond);
    }

    private static void bothWays() {
        DriftPlans plans = Scenes.withRows(1, 500, 3, 50, 20);
        plans.part(0, 1, 1);
        plans.part(1, 4, 3);
        plans.part(2, 3, 30);
        plans.count(1);
        for (int shape = 1; shape <= 31; shape++) {
            CHECKS.due("by rows", plans.least(shape, true, 1), plans.least(shape, true, 0));
            CHECKS.due("by guesses", plans.least(shape, false, 1), plans.least(shape, false, 0));
        }
        CHECKS.due("way -1", plans.least(31, true, -1), INVALID);
        CHECKS.due("way 2", plans.least(31, true, 2), INVALID);
    }

    private static void leastOfAll() {
        DriftPlans plans = Scenes.withRows(1, 1, 1, 1, 1);
        CHECKS.due("one table of 1", plans.least(1, true, 0), 1);
        CHECKS.due("five tables of 1", plans.least(31, true, 0), 5);
        for (int table = 0; table < 4; table++) {
            plans.part(table, table + 1, 1);
        }
        CHECKS.due("five tables of nothing", plans.least(31, true, 1), 5);
    }

    private static void placesOfEachShape() {
        DriftPlans plans = Scenes.withRows(5, 4, 3, 2, 1);
        for (int shape = 1; shape <= 31; shape++) {
            int place = 0;
            for (int table = 4; table >= 0; table--) {
                if ((shape & 1 << table) != 0) {
                    CHECKS.due("of " + shape, plans.best(shape, true, place), table);
                    place++;
                }
            }
            CHECKS.due("beyond " + shape, plans.best(shape, true, place), NONE);
        }
    }

    private static void placeBelow0() {
        DriftPlans plans = new DriftPlans();
        CHECKS.due("-1", plans.best(31, true, -1), INVALID);
        CHECKS.due("the least number", plans.best(31, false, Integer.MIN_VALUE), INVALID);
    }

    private static void placesBeyond() {
        DriftPlans plans = new DriftPlans();
        for (int place = 0; place <= 6; place++) {
            CHECKS.due("of five", plans.best(31, true, place), place < 5 ? place : NONE);
            CHECKS.due("of one", plans.best(1, true, place), place < 1 ? 0 : NONE);
        }
        CHECKS.due("far beyond", plans.best(31, true, Integer.MAX_VALUE), NONE);
        CHECKS.due("as far as 32 times", plans.best(31, true, 32), NONE);
    }

    // ---- promise 19

    private static void looksAtKeptPlans() {
        CHECKS.test("its first table, its second one, and so on, NOT_FOUND if it has not so many", EdgesTest::planTables);
        CHECKS.test("what: 0 to 11", EdgesTest::numbersOfPlans);
        CHECKS.test("how much more than the best plan it costs by the rows: nothing", EdgesTest::noMore);
        CHECKS.test("how much more than the best plan it costs by the rows: 1", EdgesTest::moreBy1);
        CHECKS.test("1 if it has drifted, otherwise 0: only pinned ones have", EdgesTest::driftedOrNot);
        CHECKS.test("its place, from 0, the one of longest ago first", EdgesTest::placesOfRuns);
        CHECKS.test("NOT_FOUND if no plan is kept for the shape", EdgesTest::planOfNone);
    }

    private static void planTables() {
        for (int tables = 1; tables <= 5; tables++) {
            int shape = (1 << tables) - 1;
            DriftPlans plans = Scenes.withPlans(shape);
            for (int place = 0; place <= 4; place++) {
                CHECKS.due("of " + tables, plans.plan(shape, place), place < tables ? place : NONE);
            }
        }
    }

    private static void numbersOfPlans() {
        DriftPlans plans = Scenes.withPlans(31);
        int[] due = {0, 1, 2, 3, 4, 111110, 111110, 1, 0, 0, 0, 0};
        for (int what = 0; what <= 11; what++) {
            CHECKS.due("what " + what, plans.plan(31, what), due[what]);
        }
        CHECKS.due("what -1", plans.plan(31, -1), INVALID);
        CHECKS.due("what 12", plans.plan(31, 12), INVALID);
    }

    private static void noMore() {
        DriftPlans plans = Scenes.withPlans(3);
        plans.rows(0, 10);
        CHECKS.due("as good as others", plans.plan(3, 9), 0);
        plans.rows(1, 500);
        CHECKS.due("better than others", plans.plan(3, 9), 0);
    }

    private static void moreBy1() {
        DriftPlans plans = Scenes.withPlans(3);
        plans.rows(0, 11);
        CHECKS.due("11 ahead of 10", plans.plan(3, 9), 1);
        plans.rows(0, 500);
        plans.rows(1, 1);
        CHECKS.due("500 ahead of 1", plans.plan(3, 9), 499);
    }

    private static void driftedOrNot() {
        DriftPlans plans = pinnedAt(20);
        CHECKS.due("just not", plans.plan(3, 10), 0);
        Scenes.countAt(plans, 0, 21);
        CHECKS.due("just so", plans.plan(3, 10), 1);
        plans.drift(210);
        CHECKS.due("not by 210", plans.plan(3, 10), 0);
        plans.drift(209);
        CHECKS.due("by 209", plans.plan(3, 10), 1);
    }

    private static void placesOfRuns() {
        DriftPlans plans = Scenes.withPlans(8, 4, 2, 1);
        for (int place = 0; place <= 3; place++) {
            CHECKS.due("in the order of runs", plans.plan(8 >> place, 11), place);
        }
        plans.run(8);
        CHECKS.due("run again", plans.plan(8, 11), 3);
        CHECKS.due("the first one then", plans.plan(4, 11), 0);
        plans.run(8);
        CHECKS.due("the last one run again", plans.plan(8, 11), 3);
        plans.forget(4);
        CHECKS.due("the one behind it", plans.plan(2, 11), 0);
    }

    private static void planOfNone() {
        DriftPlans plans = Scenes.withPlans(3);
        for (int what = 0; what <= 11; what++) {
            CHECKS.due("of a part of it", plans.plan(1, what), NONE);
            CHECKS.due("of more than it", plans.plan(7, what), NONE);
        }
        CHECKS.due("a wrong number ahead of that", plans.plan(7, 12), INVALID);
    }

    // ---- promises 20 and 21

    private static void looksAtAccounts() {
        CHECKS.test("counted, what: 0 to 13", EdgesTest::eachAccount);
        CHECKS.test("and so far 3 .. 11", EdgesTest::accountsSoFar);
        CHECKS.test("kept plans, pinned ones: 0 to 4", EdgesTest::keptAndPinned);
        CHECKS.test("the length of the pad: 0 to 60", EdgesTest::lengths);
        CHECKS.test("states in the history: 0 to 4", EdgesTest::states);
        CHECKS.test("1.0 without kept plans", EdgesTest::fitnessOfNone);
        CHECKS.test("how well the kept plans do: 1.0 is the best", EdgesTest::bestFitness);
        CHECKS.test("of all kept plans' shapes together", EdgesTest::fitnessTogether);
    }

    private static void eachAccount() {
        DriftPlans plans = new DriftPlans();
        for (int what = 0; what <= 13; what++) {
            CHECKS.due("what " + what, plans.counted(what), what == 2 ? 200 : 0);
        }
        CHECKS.due("what -1", plans.counted(-1), INVALID);
        CHECKS.due("what 14", plans.counted(14), INVALID);
    }

    private static void accountsSoFar() {
        DriftPlans plans = new DriftPlans();
        int[] once = {2, 7, 10 + 10 + 110 + 10 + 10 + 10 + 110 + 10 + 21, 80, 1, 1, 1, 3, 1};
        for (int times = 1; times <= 4; times++) {
            Scenes.useAllAccounts(plans);
            for (int what = 3; what <= 11; what++) {
                CHECKS.due("counted(" + what + ") after " + times, plans.counted(what), times * once[what - 3]);
            }
        }
    }

    private static void keptAndPinned() {
        DriftPlans plans = new DriftPlans();
        for (int kept = 0; kept < 4; kept++) {
            CHECKS.due("kept", plans.counted(0), kept);
            CHECKS.due("pinned", plans.counted(1), kept);
            plans.run(1 << kept);
            plans.pin(1 << kept);
        }
        plans.run(16);
        CHECKS.due("kept", plans.counted(0), 4);
        CHECKS.due("pinned", plans.counted(1), 4);
    }

    private static void lengths() {
        DriftPlans plans = new DriftPlans();
        for (int length = 0; length <= 60; length++) {
            CHECKS.due("length", plans.counted(12), length);
            plans.append('~');
        }
        CHECKS.due("length of a full one", plans.counted(12), 60);
    }

    private static void states() {
        DriftPlans plans = new DriftPlans();
        for (int change = 0; change <= 7; change++) {
            CHECKS.due("states", plans.counted(13), Math.min(change, 4));
            plans.count(0);
        }
    }

    private static void fitnessOfNone() {
        DriftPlans plans = new DriftPlans();
        CHECKS.dueDouble("never", plans.fitness(), 1.0);
        plans.run(3);
        plans.rows(0, 500);
        plans.forget(3);
        CHECKS.dueDouble("no more", plans.fitness(), 1.0);
    }

    private static void bestFitness() {
        DriftPlans plans = Scenes.withPlans(3, 7);
        CHECKS.dueDouble("the best plans", plans.fitness(), 1.0);
        plans.rows(0, 11);
        CHECKS.dueDouble("1 more, 11 more", plans.fitness(), (120.0 + 1210.0) / (121.0 + 1221.0));
    }

    /** One by one they would be 1 / 2 and 1 together or between. */
    private static void fitnessTogether() {
        DriftPlans plans = Scenes.withPlans(3, 16);
        plans.rows(0, 500);
        plans.rows(1, 1);
        CHECKS.dueDouble("501 of 1000, 10 of 10", plans.fitness(), (501.0 + 10.0) / (1000.0 + 10.0));
    }

    // ---- promises 22 to 24

    private static void whatWouldBe() {
        CHECKS.test("how many plans would be thrown out: 0 to 4", EdgesTest::wouldBeThrownOut);
        CHECKS.test("how many plans would be thrown out: at the edge of drift", EdgesTest::wouldJustDrift);
        CHECKS.test("how many plans would be thrown out: no pinned ones", EdgesTest::pinnedWouldStay);
        CHECKS.test("set: the tables that would be counted, 1 to 31", EdgesTest::onlyTheseTables);
        CHECKS.test("how many kept plans would cost more than the best plans: 0 to 4", EdgesTest::wouldCostMore);
        CHECKS.test("what run() would return: a miss, a hit, used only", EdgesTest::ifRunAsRun);
        CHECKS.test("Returns the least DRIFT, 100 to 1000: the least", EdgesTest::leastDriftIs100);
        CHECKS.test("Returns the least DRIFT, 100 to 1000: the greatest", EdgesTest::leastDriftIs1000);
        CHECKS.test("with which no kept plan that is not pinned would have drifted", EdgesTest::pinnedDoNotMatter);
        CHECKS.test("would have drifted: by guesses, not by rows", EdgesTest::rowsDoNotMatter);
        CHECKS.test("the least DRIFT: one less throws a plan out", EdgesTest::oneLessThrowsOut);
    }

    private static void wouldBeThrownOut() {
        for (int kept = 0; kept <= 4; kept++) {
            DriftPlans plans = new DriftPlans();
            for (int table = 0; table < kept; table++) {
                plans.run(1 << table);
            }
            for (int table = 0; table < 5; table++) {
                plans.rows(table, 500);
            }
            CHECKS.due("by all tables", plans.ifCounted(31, 0), kept);
            CHECKS.due("by the last table", plans.ifCounted(16, 0), 0);
            CHECKS.due("by the first table", plans.ifCounted(1, 0), kept == 0 ? 0 : 1);
            CHECKS.due("kept", plans.counted(0), kept);
        }
    }

    private static void wouldJustDrift() {
        DriftPlans plans = Scenes.withPlans(1);
        int[] rows = {4, 5, 20, 21};
        int[] due = {1, 0, 0, 1};
        for (int number = 0; number < rows.length; number++) {
            plans.rows(0, rows[number]);
            CHECKS.due("at " + rows[number], plans.ifCounted(1, 0), due[number]);
        }
    }

    private static void pinnedWouldStay() {
        DriftPlans plans = Scenes.withFourPinned();
        for (int table = 0; table < 5; table++) {
            plans.rows(table, 500);
        }
        CHECKS.due("none", plans.ifCounted(31, 0), 0);
        plans.pin(4);
        CHECKS.due("the loose one", plans.ifCounted(31, 0), 1);
        plans.count(0);
        CHECKS.due("not the one that drifted before", plans.ifCounted(1, 0), 0);
    }

    private static void onlyTheseTables() {
        for (int set = 1; set <= 31; set++) {
            DriftPlans plans = Scenes.withPlans(1, 2, 4, 16);
            int due = 0;
            for (int table = 0; table < 5; table++) {
                plans.rows(table, 99);
                due += table != 3 && (set & 1 << table) != 0 ? 1 : 0;
            }
            CHECKS.due("by " + set, plans.ifCounted(set, 0), due);
        }
    }

    private static void wouldCostMore() {
        int[] shapes = {0b00011, 0b00101, 0b01001, 0b10001};
        for (int kept = 0; kept <= 4; kept++) {
            DriftPlans plans = new DriftPlans();
            for (int plan = 0; plan < kept; plan++) {
                plans.run(shapes[plan]);
            }
            CHECKS.due("none while all are the best", plans.ifCounted(31, 1), 0);
            plans.rows(0, 11);
            CHECKS.due("all by 1", plans.ifCounted(31, 1), kept);
            plans.rows(0, 21);
            CHECKS.due("none that would be thrown out", plans.ifCounted(31, 1), 0);
            CHECKS.due("all without that", plans.ifCounted(30, 1), kept);
        }
    }

    private static void ifRunAsRun() {
        for (int shape = 1; shape <= 31; shape++) {
            DriftPlans plans = Scenes.withRows(20, 15, 10, 5, 30);
            int due = plans.ifRun(shape);
            CHECKS.due("a miss of " + shape, plans.run(shape), due);
            due = plans.ifRun(shape);
            CHECKS.due("a hit of " + shape + ", or a miss again", plans.run(shape), due);
        }
        DriftPlans pinned = Scenes.withFourPinned();
        CHECKS.due("a hit", pinned.ifRun(8), 10);
        CHECKS.due("used only", pinned.ifRun(16), 20);
        CHECKS.due("none was used so", pinned.counted(11), 0);
    }

    private static void leastDriftIs100() {
        CHECKS.due("without plans", new DriftPlans().leastDrift(), 100);
        CHECKS.due("nothing drifted", Scenes.withPlans(31).leastDrift(), 100);
        DriftPlans plans = Scenes.withPlans(1);
        Scenes.countAt(plans, 0, 11);
        CHECKS.due("just more", plans.leastDrift(), 110);
        Scenes.countAt(plans, 0, 10);
        CHECKS.due("back again", plans.leastDrift(), 100);
    }

    private static void leastDriftIs1000() {
        for (int guess : new int[] {1, 100}) {
            DriftPlans plans = Scenes.withPlans(1);
            plans.drift(1000);
            Scenes.countAt(plans, 0, guess);
            CHECKS.due("at " + guess, plans.leastDrift(), 1000);
            CHECKS.due("kept", plans.counted(0), 1);
        }
    }

    private static void pinnedDoNotMatter() {
        DriftPlans plans = pinnedAt(500);
        CHECKS.due("all are pinned", plans.leastDrift(), 100);
        plans.run(2);
        Scenes.countAt(plans, 1, 7);
        CHECKS.due("only the loose one", plans.leastDrift(), 143);
        plans.pin(2);
        CHECKS.due("none again", plans.leastDrift(), 100);
    }

    private static void rowsDoNotMatter() {
        DriftPlans plans = Scenes.withPlans(1);
        plans.rows(0, 500);
        CHECKS.due("before it is counted", plans.leastDrift(), 100);
        plans.rows(0, 15);
        plans.count(0);
        plans.rows(0, 10);
        CHECKS.due("after it was counted", plans.leastDrift(), 150);
    }

    private static void oneLessThrowsOut() {
        for (int guess = 1; guess <= 100; guess++) {
            if (guess != 10) {
                DriftPlans plans = Scenes.withPlans(1);
                plans.drift(1000);
                Scenes.countAt(plans, 0, guess);
                int least = plans.leastDrift();
                CHECKS.due("by the least", plans.drift(least), 0);
                CHECKS.due("by one less", plans.drift(least - 1), 1);
            }
        }
    }
}
