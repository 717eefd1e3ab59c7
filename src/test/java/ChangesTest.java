import java.util.function.Consumer;

/**
 * The boundary cases that the document names under "Changes and errors" and in promises 25 to 27: a test for each
 * sentence. What refused calls leave as it was stands in RefusedCallsTest.
 */
public final class ChangesTest {
    private static final Checks CHECKS = new Checks("ChangesTest");
    private static final int MOST = 1000000000;
    /** The cost of all tables from 0 up, which is the best plan too. */
    private static final int[] COST_BELOW = {9, 11, 93, 252, 430};
    private static final int[] COST_AT = {10, 99, 100, 100, 100};
    private static final int[] COST_ABOVE = {11, 90, 100, 100, 100};
    /** The plan from 0 up costs so much more than the best one. */
    private static final int[] MORE_BELOW = {211, 296, 108, 371, 223};
    private static final int[] MORE_AT = {496, 161, 91, 181, 121};
    private static final int[] MORE_ABOVE = {133, 143, 383, 412, 275};

    public static void main(String[] args) {
        whatAreChanges();
        history();
        undone();
        snapshots();
        toldNumbers();
        exactNumbers();
        CHECKS.end();
    }

    // ---- what changes are

    private static void whatAreChanges() {
        change("rows", plans -> plans.rows(0, 10));
        change("part", plans -> plans.part(0, 1, 100));
        change("count", plans -> plans.count(0));
        change("drift", plans -> plans.drift(200));
        change("carryOut", plans -> Scenes.carryOut(plans, "r0=10"));
        change("carryOut of none", plans -> Scenes.carryOut(plans, "p4"));
        change("restore", DriftPlans::restore);
        change("run", plans -> plans.run(1));
        change("pin", plans -> plans.pin(1));
        change("forget", plans -> plans.forget(1));
        for (String sentence : new String[] {"append", "clear", "save", "undo"}) {
            CHECKS.test("The changes are the calls of .., not of " + sentence, () -> noChange(sentence));
        }
    }

    private static DriftPlans withPlanAndSnapshot() {
        DriftPlans plans = Scenes.withPlans(1);
        plans.save();
        return plans;
    }

    private static void change(String name, Consumer<DriftPlans> call) {
        CHECKS.test("each change records everything (also if nothing is different then): " + name, () -> {
            DriftPlans plans = withPlanAndSnapshot();
            call.accept(plans);
            CHECKS.due("states", plans.counted(13), 2);
            CHECKS.due("undo", plans.undo(), 1);
            CHECKS.dueText("what is undone", withoutWhy(plans), withoutWhy(withPlanAndSnapshot()));
        });
    }

    private static String withoutWhy(DriftPlans plans) {
        return Scenes.looks(plans).replaceAll("^why -?\\d+ -?\\d+", "");
    }

    private static void noChange(String name) {
        DriftPlans plans = Scenes.withPlans(1, 2);
        switch (name) {
            case "append":
                plans.append('q');
                break;
            case "clear":
                plans.clear();
                break;
            case "save":
                plans.save();
                break;
            default:
                plans.undo();
                plans.run(2);
                break;
        }
        CHECKS.due("states", plans.counted(13), 2);
        CHECKS.due("undo", plans.undo(), 1);
        CHECKS.due("kept", plans.counted(0), 1);
    }

    // ---- the history

    private static void history() {
        CHECKS.test("A history of at most 4 states is kept: none at first", ChangesTest::noneAtFirst);
        CHECKS.test("A history of at most 4 states is kept: 4 are kept", ChangesTest::fourAreKept);
        CHECKS.test("if there are 5 states then, the oldest one is dropped", ChangesTest::fifthDropsTheOldest);
        CHECKS.test("the oldest one is dropped, again and again", ChangesTest::manyChanges);
        CHECKS.test("after an undo there is room for one state more", ChangesTest::roomAfterUndo);
    }

    private static void noneAtFirst() {
        DriftPlans plans = new DriftPlans();
        CHECKS.due("states", plans.counted(13), 0);
        CHECKS.due("undo", plans.undo(), DriftPlans.NOT_POSSIBLE);
    }

    private static DriftPlans changed(int times) {
        DriftPlans plans = new DriftPlans();
        for (int change = 1; change <= times; change++) {
            plans.rows(0, 100 + change);
        }
        return plans;
    }

    private static void undoesDownTo(DriftPlans plans, int states, int firstRows, int lastRows) {
        CHECKS.due("states", plans.counted(13), states);
        for (int left = states - 1; left >= 0; left--) {
            CHECKS.due("undo", plans.undo(), left);
        }
        CHECKS.due("no more", plans.undo(), DriftPlans.NOT_POSSIBLE);
        CHECKS.due("rows then", plans.table(0, 0), firstRows);
        CHECKS.holds("rows were others", firstRows != lastRows);
    }

    private static void fourAreKept() {
        undoesDownTo(changed(4), 4, 10, 104);
    }

    private static void fifthDropsTheOldest() {
        undoesDownTo(changed(5), 4, 101, 105);
    }

    private static void manyChanges() {
        for (int times = 6; times <= 40; times++) {
            undoesDownTo(changed(times), 4, 100 + times - 4, 100 + times);
        }
    }

    private static void roomAfterUndo() {
        DriftPlans plans = changed(7);
        CHECKS.due("undo", plans.undo(), 3);
        plans.rows(0, 300);
        CHECKS.due("states", plans.counted(13), 4);
        plans.rows(0, 301);
        CHECKS.due("undo", plans.undo(), 3);
        CHECKS.due("rows", plans.table(0, 0), 300);
        undoesDownTo(plans, 3, 104, 300);
    }

    // ---- undo

    private static void undone() {
        CHECKS.test("NOT_POSSIBLE if it has none", ChangesTest::undoOfNone);
        CHECKS.test("Returns how many states the history has then: none", () -> CHECKS.due("undo", changed(1).undo(), 0));
        CHECKS.test("everything but the pad is as it was before it", ChangesTest::padIsNotUndone);
        CHECKS.test("everything but the snapshot is as it was before it", ChangesTest::snapshotIsNotUndone);
        CHECKS.test("everything is as it was before it: tables, parts, DRIFT", ChangesTest::numbersAreUndone);
        CHECKS.test("everything is as it was before it: places and pins", ChangesTest::placesAreUndone);
        CHECKS.test("everything is as it was before it: accounts", ChangesTest::accountsAreUndone);
    }

    private static void undoOfNone() {
        DriftPlans plans = changed(1);
        plans.undo();
        CHECKS.due("undo", plans.undo(), DriftPlans.NOT_POSSIBLE);
        CHECKS.due("and again", plans.undo(), DriftPlans.NOT_POSSIBLE);
        CHECKS.due("states", plans.counted(13), 0);
        CHECKS.due("rows", plans.table(0, 0), 10);
    }

    private static void padIsNotUndone() {
        DriftPlans plans = changed(1);
        Checks.write(plans, "q0");
        plans.undo();
        CHECKS.due("length", plans.counted(12), 2);
        plans.carryOut();
        plans.undo();
        CHECKS.due("length when it was carried out", plans.counted(12), 0);
    }

    private static void snapshotIsNotUndone() {
        DriftPlans plans = changed(1);
        plans.save();
        plans.undo();
        CHECKS.due("rows", plans.table(0, 0), 10);
        CHECKS.due("restore", plans.restore(), 0);
        CHECKS.due("rows of the snapshot", plans.table(0, 0), 101);
    }

    private static void numbersAreUndone() {
        DriftPlans plans = new DriftPlans();
        String first = Scenes.looks(plans);
        plans.drift(1000);
        plans.rows(4, 500);
        plans.count(4);
        plans.part(3, 4, 1);
        CHECKS.due("DRIFT", plans.counted(2), 1000);
        CHECKS.due("undo of part", plans.undo(), 3);
        CHECKS.due("part", plans.partOf(4, 3), 100);
        CHECKS.due("undo of count", plans.undo(), 2);
        CHECKS.due("guess", plans.table(4, 1), 10);
        CHECKS.due("undo of rows", plans.undo(), 1);
        CHECKS.due("rows", plans.table(4, 0), 10);
        CHECKS.due("undo of drift", plans.undo(), 0);
        CHECKS.due("DRIFT", plans.counted(2), 200);
        CHECKS.dueText("all", Scenes.looks(plans), first);
    }

    private static void placesAreUndone() {
        DriftPlans plans = Scenes.withPlans(1, 2, 4, 8);
        plans.pin(2);
        plans.run(1);
        plans.undo();
        CHECKS.due("place before the hit", plans.plan(1, 11), 0);
        CHECKS.due("runs before the hit", plans.plan(1, 7), 1);
        plans.undo();
        CHECKS.due("loose before the pin", plans.plan(2, 8), 0);
        plans.run(16);
        plans.undo();
        CHECKS.due("pushed out no more", plans.plan(1, 11), 0);
        CHECKS.due("not yet run", plans.plan(16, 11), DriftPlans.NOT_FOUND);
    }

    private static void accountsAreUndone() {
        DriftPlans plans = Scenes.busy();
        for (int change = 0; change < 40; change++) {
            int[] before = accounts(plans);
            changeSomething(plans, change);
            int[] between = accounts(plans);
            plans.undo();
            for (int what = 0; what <= 11; what++) {
                CHECKS.due("counted(" + what + ") after " + change, plans.counted(what), before[what]);
            }
            changeSomething(plans, change);
            for (int what = 0; what <= 11; what++) {
                CHECKS.due("counted(" + what + ") done again", plans.counted(what), between[what]);
            }
            plans = change % 5 == 4 ? Scenes.busy() : plans;
        }
    }

    private static int[] accounts(DriftPlans plans) {
        int[] all = new int[12];
        for (int what = 0; what <= 11; what++) {
            all[what] = plans.counted(what);
        }
        return all;
    }

    private static void changeSomething(DriftPlans plans, int change) {
        int shape = change * 7 % 31 + 1;
        switch (change % 4) {
            case 0:
                plans.run(shape);
                break;
            case 1:
                plans.part(0, 1 + change % 4, 50);
                break;
            case 2:
                Scenes.carryOut(plans, "q0;p0;q1;p1;q2;p2;q3;p3;q4");
                break;
            default:
                plans.forget(plans.plan(12, 7) > 0 ? 12 : 1);
                break;
        }
    }

    // ---- snapshots

    private static void snapshots() {
        CHECKS.test("NOT_POSSIBLE if there is none", ChangesTest::noSnapshot);
        CHECKS.test("Returns how many plans are kept: 0 to 4", ChangesTest::plansInSnapshots);
        CHECKS.test("in place of the one that was", ChangesTest::latestSnapshot);
        CHECKS.test("Restores the snapshot, which stays", ChangesTest::snapshotStays);
        CHECKS.test("a snapshot of everything but the pad", ChangesTest::padIsNotRestored);
        CHECKS.test("a snapshot of everything but the history", ChangesTest::historyIsNotRestored);
        CHECKS.test("a snapshot of a new object", ChangesTest::snapshotOfNothing);
    }

    private static void noSnapshot() {
        DriftPlans plans = Scenes.withPlans(1);
        CHECKS.due("restore", plans.restore(), DriftPlans.NOT_POSSIBLE);
        plans.undo();
        CHECKS.due("restore", plans.restore(), DriftPlans.NOT_POSSIBLE);
        plans.save();
        CHECKS.due("restore then", plans.restore(), 0);
    }

    private static void plansInSnapshots() {
        DriftPlans plans = new DriftPlans();
        for (int kept = 0; kept <= 4; kept++) {
            CHECKS.due("save", plans.save(), kept);
            CHECKS.due("restore", plans.restore(), kept);
            plans.run(1 << kept);
        }
        CHECKS.due("save of no more than 4", plans.save(), 4);
        plans.forget(16);
        CHECKS.due("restore of 4 over 3", plans.restore(), 4);
    }

    private static void latestSnapshot() {
        DriftPlans plans = Scenes.withPlans(1, 2);
        plans.save();
        plans.forget(1);
        CHECKS.due("save of less", plans.save(), 1);
        plans.forget(2);
        CHECKS.due("restore", plans.restore(), 1);
        CHECKS.due("the first one", plans.plan(1, 7), DriftPlans.NOT_FOUND);
        CHECKS.due("the second one", plans.plan(2, 7), 1);
    }

    private static void snapshotStays() {
        DriftPlans plans = Scenes.withPlans(3);
        plans.save();
        for (int time = 1; time <= 3; time++) {
            plans.run(3);
            plans.pin(3);
            plans.part(0, 1, time);
            plans.rows(0, time);
            plans.drift(100 + time);
            CHECKS.due("restore", plans.restore(), 1);
            CHECKS.due("runs", plans.plan(3, 7), 1);
            CHECKS.due("loose", plans.plan(3, 8), 0);
            CHECKS.due("part", plans.partOf(0, 1), 100);
            CHECKS.due("rows", plans.table(0, 0), 10);
            CHECKS.due("DRIFT", plans.counted(2), 200);
        }
    }

    private static void padIsNotRestored() {
        DriftPlans plans = Scenes.withPad("q0;");
        plans.save();
        plans.append('c');
        plans.restore();
        CHECKS.due("length", plans.counted(12), 4);
        plans.clear();
        plans.restore();
        CHECKS.due("length of an empty one", plans.counted(12), 0);
    }

    private static void historyIsNotRestored() {
        DriftPlans plans = changed(2);
        plans.save();
        plans.rows(0, 300);
        plans.restore();
        CHECKS.due("states", plans.counted(13), 4);
        CHECKS.due("undo of restore", plans.undo(), 3);
        CHECKS.due("rows before restore", plans.table(0, 0), 300);
        DriftPlans full = changed(4);
        full.save();
        full.restore();
        undoesDownTo(full, 4, 101, 104);
    }

    private static void snapshotOfNothing() {
        DriftPlans plans = new DriftPlans();
        CHECKS.due("save", plans.save(), 0);
        Scenes.carryOut(plans, "r0=1;c0;q0;p0;q34");
        plans.part(3, 4, 5);
        CHECKS.due("restore", plans.restore(), 0);
        CHECKS.due("states", plans.counted(13), 3);
        CHECKS.dueText("all but the states", Scenes.looks(plans).replace("counted 3 fault", "counted 0 fault"),
                Scenes.looks(new DriftPlans()));
    }

    // ---- numbers above a billion

    private static void toldNumbers() {
        String sentence = "A number that would be above 1000000000 is told as 1000000000: ";
        CHECKS.test(sentence + "size", ChangesTest::toldSize);
        CHECKS.test(sentence + "least", ChangesTest::toldLeast);
        CHECKS.test(sentence + "run by its plan", ChangesTest::toldHits);
        CHECKS.test(sentence + "run with making the plan", ChangesTest::toldMisses);
        CHECKS.test(sentence + "plan, its cost by the rows", ChangesTest::toldPlanByRows);
        CHECKS.test(sentence + "plan, its cost by the guesses", ChangesTest::toldPlanByGuesses);
        CHECKS.test(sentence + "plan, how much more it costs", ChangesTest::toldMore);
        CHECKS.test(sentence + "counted, what all runs cost", ChangesTest::toldSum);
    }

    private static void toldSize() {
        CHECKS.due("500 500 400 10", Scenes.withRows(500, 500, 400, 10).size(15, true), MOST);
        CHECKS.due("500 500 333 12", Scenes.withRows(500, 500, 333, 12).size(15, true), 999000000);
        CHECKS.due("all 500", Scenes.withRows(500, 500, 500, 500, 500).size(31, true), MOST);
        DriftPlans below = Scenes.withRows(10, 356, 499, 334, 159);
        below.part(0, 4, 53);
        below.part(1, 4, 2);
        CHECKS.due("less by 1", below.size(31, true), MOST - 1);
        DriftPlans above = Scenes.withRows(167, 345, 67, 299, 114);
        above.part(0, 4, 1);
        above.part(1, 4, 76);
        CHECKS.due("more by 1", above.size(31, true), MOST);
        DriftPlans guesses = Scenes.withRows(500, 500, 500, 500);
        for (int table = 0; table < 4; table++) {
            guesses.count(table);
        }
        CHECKS.due("by guesses", guesses.size(15, false), MOST);
    }

    private static void toldLeast() {
        for (int way = 0; way <= 1; way++) {
            CHECKS.due("less by 1", Scenes.withRows(COST_BELOW).least(31, true, way), MOST - 1);
            CHECKS.due("just so", Scenes.withRows(COST_AT).least(31, true, way), MOST);
            CHECKS.due("more by 1", Scenes.withRows(COST_ABOVE).least(31, true, way), MOST);
            CHECKS.due("all 500", Scenes.withRows(500, 500, 500, 500, 500).least(31, true, way), MOST);
        }
    }

    /** A plan from 0 up, pinned, with these rows then. */
    private static DriftPlans pinnedThen(int... rows) {
        DriftPlans plans = Scenes.withPlans(31);
        plans.pin(31);
        for (int table = 0; table < 5; table++) {
            plans.rows(table, rows[table]);
        }
        return plans;
    }

    private static void hit(int[] rows, int due) {
        DriftPlans plans = pinnedThen(rows);
        CHECKS.due("ifRun", plans.ifRun(31), due);
        CHECKS.due("run", plans.run(31), due);
    }

    private static void toldHits() {
        hit(COST_BELOW, MOST - 1);
        hit(COST_AT, MOST);
        hit(COST_ABOVE, MOST);
        hit(new int[] {500, 500, 500, 500, 500}, MOST);
    }

    private static void miss(int due, int cost, int... rows) {
        DriftPlans plans = Scenes.withRows(rows);
        CHECKS.due("ifRun", plans.ifRun(31), due);
        CHECKS.due("run", plans.run(31), due);
        CHECKS.due("what runs cost", plans.counted(5), cost);
        CHECKS.due("what making cost", plans.counted(6), 50);
    }

    private static void toldMisses() {
        miss(MOST, MOST - 50, 5, 21, 112, 211, 402);
        miss(MOST, MOST - 40, 1, 43, 151, 359, 428);
        miss(MOST, MOST - 1, COST_BELOW);
        miss(MOST, MOST, 500, 500, 500, 500, 500);
    }

    private static void toldPlanByRows() {
        CHECKS.due("less by 1", pinnedThen(COST_BELOW).plan(31, 5), MOST - 1);
        CHECKS.due("just so", pinnedThen(COST_AT).plan(31, 5), MOST);
        CHECKS.due("more by 1", pinnedThen(COST_ABOVE).plan(31, 5), MOST);
        CHECKS.due("much more", pinnedThen(500, 500, 500, 500, 500).plan(31, 5), MOST);
    }

    private static int costByGuesses(int... rows) {
        DriftPlans plans = pinnedThen(rows);
        CHECKS.due("by the first guesses", plans.plan(31, 6), 111110);
        for (int table = 0; table < 5; table++) {
            plans.count(table);
        }
        return plans.plan(31, 6);
    }

    private static void toldPlanByGuesses() {
        CHECKS.due("less by 1", costByGuesses(COST_BELOW), MOST - 1);
        CHECKS.due("just so", costByGuesses(COST_AT), MOST);
        CHECKS.due("more by 1", costByGuesses(COST_ABOVE), MOST);
        CHECKS.due("much more", costByGuesses(500, 500, 500, 500, 500), MOST);
    }

    private static void toldMore() {
        CHECKS.due("less by 1", pinnedThen(MORE_BELOW).plan(31, 9), MOST - 1);
        CHECKS.due("just so", pinnedThen(MORE_AT).plan(31, 9), MOST);
        CHECKS.due("more by 1", pinnedThen(MORE_ABOVE).plan(31, 9), MOST);
        CHECKS.due("much more", pinnedThen(500, 500, 500, 500, 1).plan(31, 9), MOST);
    }

    private static void toldSum() {
        DriftPlans plans = Scenes.withRows(COST_BELOW);
        plans.run(31);
        CHECKS.due("less by 1", plans.counted(5), MOST - 1);
        plans.rows(0, 1);
        plans.run(1);
        CHECKS.due("just so", plans.counted(5), MOST);
        plans.run(1);
        CHECKS.due("more by 1", plans.counted(5), MOST);
        for (int time = 0; time < 300; time++) {
            plans.run(31);
        }
        CHECKS.due("much more", plans.counted(5), MOST);
    }

    // ---- within, all is exact

    private static void exactNumbers() {
        String sentence = "(within, all is exact: ";
        CHECKS.test(sentence + "costs that are compared, for the best plan", ChangesTest::comparedForTheBest);
        CHECKS.test(sentence + "costs that are compared, for what counting brings", ChangesTest::comparedForCounting);
        CHECKS.test(sentence + "sums", ChangesTest::exactSums);
        CHECKS.test(sentence + "sums of fitness()", ChangesTest::exactFitness);
        CHECKS.test(sentence + "and differences, too)", ChangesTest::exactDifferences);
    }

    private static void comparedForTheBest() {
        DriftPlans plans = Scenes.withRows(500, 499, 498, 497, 496);
        for (int place = 0; place < 5; place++) {
            CHECKS.due("place " + place, plans.best(31, true, place), 4 - place);
        }
    }

    private static void comparedForCounting() {
        CHECKS.due("more by little", pinnedThen(500, 500, 500, 500, 499).ifCounted(1, 1), 1);
        CHECKS.due("not more", pinnedThen(499, 500, 500, 500, 500).ifCounted(1, 1), 0);
    }

    private static void exactSums() {
        DriftPlans plans = Scenes.withRows(5, 99, 100, 100, 100);
        plans.run(31);
        CHECKS.due("once", plans.counted(5), 500000000);
        plans.run(31);
        CHECKS.due("twice", plans.counted(5), MOST);
        plans.run(31);
        CHECKS.due("thrice", plans.counted(5), MOST);
        plans.undo();
        plans.undo();
        CHECKS.due("once again", plans.counted(5), 500000000);
    }

    private static void exactFitness() {
        double all = 500.0 * 500 * 500 * 500;
        double cost = 500 + 250000 + 125000000 + all + all * 499;
        double least = 499 + 499 * 500 + 499 * 250000 + 499 * 125000000.0 + all * 499;
        CHECKS.dueDouble("fitness", pinnedThen(500, 500, 500, 500, 499).fitness(), least / cost);
        CHECKS.holds("it is not 1", least < cost);
    }

    private static void exactDifferences() {
        CHECKS.due("of costs above", pinnedThen(500, 500, 500, 500, 499).plan(31, 9), 1 + 500 + 250000 + 125000000);
        CHECKS.due("of the same costs", pinnedThen(500, 500, 500, 500, 500).plan(31, 9), 0);
    }
}
