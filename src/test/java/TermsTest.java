/** The boundary cases that the document names in "What it is" and "Terms", up to "Settings": a test for each sentence. */
public final class TermsTest {
    private static final Checks CHECKS = new Checks("TermsTest");
    private static final int GONE = DriftPlans.NOT_FOUND;

    public static void main(String[] args) {
        CHECKS.test("An object is used for at most 512 calls", TermsTest::lastOf512Calls);
        CHECKS.test("Divisions are rounded down: drift of a table", TermsTest::driftIsRoundedDown);
        CHECKS.test("Divisions are rounded down: parts of a size", TermsTest::sizesAreRoundedDown);
        tablesAndJoins();
        sizes();
        shapes();
        keptPlans();
        runs();
        driftedPlans();
        thrownOutByParts();
        settings();
        CHECKS.end();
    }

    private static void lastOf512Calls() {
        DriftPlans plans = new DriftPlans();
        for (int call = 1; call < 512; call++) {
            plans.run(31);
        }
        CHECKS.due("hits at the 512th call", plans.counted(3), 510);
    }

    private static void driftIsRoundedDown() {
        CHECKS.due("10 against 3", Scenes.withRows(3).table(0, 2), 333);
        CHECKS.due("10 against 6", Scenes.withRows(6).table(0, 2), 166);
        DriftPlans plans = Scenes.withRows(3);
        Scenes.countAt(plans, 0, 3);
        plans.rows(0, 500);
        CHECKS.due("500 against 3", plans.table(0, 2), 16666);
    }

    private static void sizesAreRoundedDown() {
        DriftPlans plans = Scenes.withRows(3, 1);
        plans.part(0, 1, 50);
        CHECKS.due("one and a half", plans.size(3, true), 1);
        plans.part(0, 1, 66);
        CHECKS.due("1.98", plans.size(3, true), 1);
        plans.part(0, 1, 67);
        CHECKS.due("2.01", plans.size(3, true), 2);
    }

    // ---- tables, joins

    private static void tablesAndJoins() {
        CHECKS.test("There are 5 tables, 0 to 4", TermsTest::tablesAre0To4);
        CHECKS.test("A table has rows, 1 to 500", TermsTest::rowsAre1To500);
        CHECKS.test("and a guess of its rows, 1 to 500", TermsTest::guessesAre1To500);
        CHECKS.test("both are 10 at first", TermsTest::bothAre10AtFirst);
        CHECKS.test("For each two tables there is a part in hundredths, 1 to 100", TermsTest::partsAre1To100);
        CHECKS.test("100 at first (all)", TermsTest::partsAre100AtFirst);
        CHECKS.test("the table t counts 2 to the power of t", TermsTest::setsAreBits);
    }

    private static void tablesAre0To4() {
        for (int table : new int[] {0, 4}) {
            DriftPlans plans = new DriftPlans();
            CHECKS.due("rows of " + table, plans.rows(table, 20), 10);
            CHECKS.due("count of " + table, plans.count(table), 0);
            CHECKS.due("its rows", plans.table(table, 0), 20);
            CHECKS.due("its guess", plans.table(table, 1), 20);
            CHECKS.due("part with it", plans.part(table, 4 - table, 30), 0);
            CHECKS.due("its part", plans.partOf(table, 4 - table), 30);
        }
        DriftPlans plans = new DriftPlans();
        CHECKS.due("no table -1", plans.table(-1, 0), DriftPlans.INVALID_ARGUMENT);
        CHECKS.due("no table 5", plans.table(5, 0), DriftPlans.INVALID_ARGUMENT);
    }

    private static void rowsAre1To500() {
        DriftPlans plans = new DriftPlans();
        CHECKS.due("no rows", plans.rows(2, 0), DriftPlans.INVALID_ARGUMENT);
        CHECKS.due("501", plans.rows(2, 501), DriftPlans.INVALID_ARGUMENT);
        CHECKS.due("1", plans.rows(2, 1), 10);
        CHECKS.due("rows", plans.table(2, 0), 1);
        CHECKS.due("500", plans.rows(2, 500), 1);
        CHECKS.due("rows", plans.table(2, 0), 500);
    }

    private static void guessesAre1To500() {
        DriftPlans plans = new DriftPlans();
        Scenes.countAt(plans, 2, 1);
        CHECKS.due("guess of 1", plans.table(2, 1), 1);
        CHECKS.due("size by it", plans.size(4, false), 1);
        Scenes.countAt(plans, 2, 500);
        CHECKS.due("guess of 500", plans.table(2, 1), 500);
        CHECKS.due("size by it", plans.size(4, false), 500);
    }

    private static void bothAre10AtFirst() {
        DriftPlans plans = new DriftPlans();
        for (int table = 0; table < 5; table++) {
            CHECKS.due("rows", plans.table(table, 0), 10);
            CHECKS.due("guess", plans.table(table, 1), 10);
        }
    }

    private static void partsAre1To100() {
        DriftPlans plans = Scenes.withRows(100, 3);
        CHECKS.due("0 hundredths", plans.part(0, 1, 0), DriftPlans.INVALID_ARGUMENT);
        CHECKS.due("101 hundredths", plans.part(0, 1, 101), DriftPlans.INVALID_ARGUMENT);
        CHECKS.due("1 hundredth", plans.part(0, 1, 1), 0);
        CHECKS.due("lets through", plans.size(3, true), 3);
        CHECKS.due("100 hundredths", plans.part(0, 1, 100), 0);
        CHECKS.due("let all through", plans.size(3, true), 300);
    }

    private static void partsAre100AtFirst() {
        DriftPlans plans = new DriftPlans();
        for (int table = 0; table < 5; table++) {
            for (int other = 0; other < table; other++) {
                CHECKS.due("part", plans.partOf(table, other), 100);
            }
        }
        CHECKS.due("lets all through", plans.size(31, true), 100000);
    }

    private static void setsAreBits() {
        DriftPlans plans = Scenes.withRows(2, 3, 5, 7, 11);
        int[] rows = {2, 3, 5, 7, 11};
        for (int table = 0; table < 5; table++) {
            CHECKS.due("only " + table, plans.size(1 << table, true), rows[table]);
            CHECKS.due("all but " + table, plans.size(31 - (1 << table), true), 2310 / rows[table]);
        }
    }

    // ---- sizes

    private static void sizes() {
        CHECKS.test("begin with 1", TermsTest::sizeBeginsWith1);
        CHECKS.test("go through its tables by rising numbers", TermsTest::tablesRise);
        CHECKS.test("for each earlier table of the set by rising numbers", TermsTest::earlierTablesRise);
        CHECKS.test("for each earlier table of the set, not for others", TermsTest::onlyJoinsWithinTheSet);
        CHECKS.test("What comes out, but at least 1, is the size", TermsTest::sizeIsAtLeast1);
        CHECKS.test("What comes out is raised to 1, not what goes on", TermsTest::nothingGoesOnAsNothing);
    }

    private static void sizeBeginsWith1() {
        for (int table = 0; table < 5; table++) {
            DriftPlans plans = new DriftPlans();
            plans.rows(table, 1);
            CHECKS.due("one table of 1", plans.size(1 << table, true), 1);
            plans.rows(table, 500);
            CHECKS.due("one table of 500", plans.size(1 << table, true), 500);
        }
    }

    /** From the table 2 down it would be 100, 100, 50. */
    private static void tablesRise() {
        DriftPlans plans = Scenes.withRows(1, 1, 100);
        plans.part(0, 1, 50);
        CHECKS.due("1, 0, 0", plans.size(7, true), 1);
    }

    /** With the table 1 ahead of the table 0 it would be 10, 9, 2. */
    private static void earlierTablesRise() {
        DriftPlans plans = Scenes.withRows(1, 1, 10);
        plans.part(0, 2, 25);
        plans.part(1, 2, 90);
        CHECKS.due("10, 2, 1", plans.size(7, true), 1);
        plans.part(0, 2, 90);
        plans.part(1, 2, 25);
        CHECKS.due("10, 9, 2", plans.size(7, true), 2);
    }

    private static void onlyJoinsWithinTheSet() {
        DriftPlans plans = new DriftPlans();
        plans.part(0, 2, 1);
        plans.part(1, 4, 1);
        plans.part(3, 4, 1);
        CHECKS.due("without 2 and 4", plans.size(0b01011, true), 1000);
        CHECKS.due("without 0 and 4", plans.size(0b01110, true), 1000);
        CHECKS.due("with 0 and 2", plans.size(0b00111, true), 10);
    }

    private static void sizeIsAtLeast1() {
        DriftPlans plans = Scenes.withRows(1, 1);
        for (int part : new int[] {1, 50, 99, 100}) {
            plans.part(0, 1, part);
            CHECKS.due("by rows at " + part, plans.size(3, true), 1);
        }
        plans.part(0, 1, 1);
        plans.count(0);
        plans.count(1);
        CHECKS.due("by guesses", plans.size(3, false), 1);
        CHECKS.due("in a cost", plans.least(3, true, 0), 2);
    }

    private static void nothingGoesOnAsNothing() {
        DriftPlans plans = Scenes.withRows(1, 1, 500, 500, 500);
        plans.part(0, 1, 99);
        CHECKS.due("nothing times 500", plans.size(0b00111, true), 1);
        CHECKS.due("nothing times much", plans.size(31, true), 1);
        CHECKS.due("without the join", plans.size(0b00101, true), 500);
    }

    // ---- shapes, plans

    private static void shapes() {
        CHECKS.test("A shape is a set of one or more tables (1 to 31)", TermsTest::shapesAre1To31);
        CHECKS.test("the sum of the sizes of the sets of its first table, and so on up to all", TermsTest::costs);
        CHECKS.test("of several the one whose first table is the least", TermsTest::tieOfFirstTables);
        CHECKS.test("of these the one whose second one is", TermsTest::tieOfSecondTables);
        CHECKS.test("and so on", TermsTest::tieOfLaterTables);
        CHECKS.test("The best plan is the one with the least cost, even by 1", TermsTest::lessBy1IsBetter);
    }

    private static void shapesAre1To31() {
        DriftPlans plans = new DriftPlans();
        CHECKS.due("the empty set", plans.run(0), DriftPlans.INVALID_ARGUMENT);
        CHECKS.due("a sixth table", plans.run(32), DriftPlans.INVALID_ARGUMENT);
        CHECKS.due("only the first one", plans.run(1), 20);
        CHECKS.due("all of them", plans.run(31), 50 + 111110);
        CHECKS.due("only the last one", plans.run(16), 20);
    }

    private static void costs() {
        DriftPlans plans = Scenes.withRows(2, 3, 5, 7, 11);
        CHECKS.due("of one table", plans.least(16, true, 0), 11);
        CHECKS.due("of two tables", plans.least(0b10001, true, 0), 2 + 22);
        CHECKS.due("of all tables", plans.least(31, true, 0), 2 + 6 + 30 + 210 + 2310);
        CHECKS.due("told by sets", plans.least(31, true, 1), 2 + 6 + 30 + 210 + 2310);
    }

    private static void orderIs(DriftPlans plans, int shape, int... tables) {
        for (int place = 0; place < tables.length; place++) {
            CHECKS.due("place " + place, plans.best(shape, true, place), tables[place]);
        }
    }

    /** Sizes of two are 4, 8, 4: the orders 0 1 2, 1 0 2, 1 2 0 and 2 1 0 cost the same. */
    private static void tieOfFirstTables() {
        orderIs(withTie(), 0b00111, 0, 2, 1);
        DriftPlans plans = Scenes.withRows(4, 4, 4);
        plans.part(0, 1, 25);
        plans.part(0, 2, 50);
        plans.part(1, 2, 25);
        orderIs(plans, 0b00111, 0, 1, 2);
        orderIs(new DriftPlans(), 0b11000, 3, 4);
    }

    /** 5 and 19 for the order 0 2 1, 4 and 20 for 1 0 2: the same, and less than for all others. */
    private static DriftPlans withTie() {
        DriftPlans plans = Scenes.withRows(5, 4, 6, 1, 500);
        plans.part(0, 2, 64);
        return plans;
    }

    /** The table 3, or 2, is the least; then there are others as good as each other. */
    private static void tieOfSecondTables() {
        orderIs(withTie(), 0b01111, 3, 0, 2, 1);
        orderIs(Scenes.withRows(10, 10, 2, 10, 10), 31, 2, 0, 1, 3, 4);
    }

    private static void tieOfLaterTables() {
        orderIs(Scenes.withRows(9, 10, 10, 2, 10), 31, 3, 0, 1, 2, 4);
        orderIs(Scenes.withRows(11, 11, 9, 8, 7), 31, 4, 3, 2, 0, 1);
    }

    private static void lessBy1IsBetter() {
        orderIs(Scenes.withRows(10, 10, 10, 10, 9), 31, 4, 0, 1, 2, 3);
        orderIs(Scenes.withRows(500, 500, 500, 500, 499), 31, 4, 0, 1, 2, 3);
    }

    // ---- kept plans

    private static void keptPlans() {
        CHECKS.test("Up to 4 plans are kept", TermsTest::upTo4AreKept);
        CHECKS.test("for unlike shapes", TermsTest::forUnlikeShapes);
        CHECKS.test("each with the guesses of its tables when it was made", TermsTest::guessesOfTheMaking);
        CHECKS.test("a hit leaves the guesses behind the plan", TermsTest::hitsLeaveTheGuesses);
        CHECKS.test("how often it was run", TermsTest::howOften);
        CHECKS.test("if 4 plans are kept already: 3 are not 4", TermsTest::threeAreNotFour);
        CHECKS.test("if 4 plans are kept already: 4 are", TermsTest::longestAgoIsPushedOut);
        CHECKS.test("that was run longest ago: not made longest ago", TermsTest::runAgainIsNotLongestAgo);
        CHECKS.test("the one of those that are not pinned", TermsTest::pinnedIsPassedOver);
        CHECKS.test("the one of those that are not pinned: the last loose one", TermsTest::onlyLooseIsPushedOut);
        CHECKS.test("if all are pinned, the new one is used, but not kept", TermsTest::allPinned);
    }

    private static void upTo4AreKept() {
        DriftPlans plans = new DriftPlans();
        for (int shape = 1; shape <= 31; shape++) {
            plans.run(shape);
            CHECKS.due("kept", plans.counted(0), Math.min(shape, 4));
        }
    }

    private static void forUnlikeShapes() {
        DriftPlans plans = Scenes.withPlans(3, 3, 3);
        CHECKS.due("one plan", plans.counted(0), 1);
        CHECKS.due("unlike ones", Scenes.withPlans(3, 1, 2, 7).counted(0), 4);
    }

    /** Made at a guess of 10 while the rows were 20: against 20 the 21 would be no drift. */
    private static void guessesOfTheMaking() {
        DriftPlans plans = Scenes.withRows(20);
        plans.run(1);
        CHECKS.due("twice as many", plans.plan(1, 10), 0);
        CHECKS.due("more than twice as many", Scenes.countAt(plans, 0, 21), 1);
    }

    private static void hitsLeaveTheGuesses() {
        DriftPlans plans = Scenes.withPlans(1);
        plans.rows(0, 20);
        CHECKS.due("a hit", plans.run(1), 20);
        plans.rows(0, 21);
        CHECKS.due("a hit at 21", plans.run(1), 21);
        CHECKS.due("drifted from the first guess", plans.plan(1, 7), GONE);
    }

    private static void howOften() {
        CHECKS.due("run once", Scenes.withPlans(1).plan(1, 7), 1);
        CHECKS.due("run twice", Scenes.withPlans(1, 1).plan(1, 7), 2);
        CHECKS.due("made anew", Scenes.withPlans(1, 1, 2, 4, 8, 16, 1).plan(1, 7), 1);
    }

    private static void threeAreNotFour() {
        DriftPlans plans = Scenes.withPlans(1, 2, 4);
        plans.run(8);
        CHECKS.due("pushed out", plans.counted(8), 0);
        CHECKS.due("the first one", plans.plan(1, 11), 0);
        CHECKS.due("the fourth one", plans.plan(8, 11), 3);
    }

    private static void longestAgoIsPushedOut() {
        DriftPlans plans = Scenes.withPlans(1, 2, 4, 8);
        plans.run(16);
        CHECKS.due("pushed out", plans.counted(8), 1);
        CHECKS.due("the first one", plans.plan(1, 11), GONE);
        CHECKS.due("the second one", plans.plan(2, 11), 0);
        CHECKS.due("the new one", plans.plan(16, 11), 3);
        plans.run(16);
        CHECKS.due("a hit pushes none out", plans.counted(8), 1);
    }

    private static void runAgainIsNotLongestAgo() {
        DriftPlans plans = Scenes.withPlans(1, 2, 4, 8, 1);
        plans.run(16);
        CHECKS.due("run again", plans.plan(1, 7), 2);
        CHECKS.due("not run again", plans.plan(2, 7), GONE);
    }

    private static void pinnedIsPassedOver() {
        DriftPlans plans = Scenes.withPlans(1, 2, 4, 8);
        plans.pin(1);
        plans.run(16);
        CHECKS.due("pinned", plans.plan(1, 11), 0);
        CHECKS.due("the next one", plans.plan(2, 11), GONE);
        CHECKS.due("pushed out", plans.counted(8), 1);
    }

    private static void onlyLooseIsPushedOut() {
        DriftPlans plans = Scenes.withFourPinned();
        plans.pin(8);
        plans.run(16);
        CHECKS.due("run just before", plans.plan(8, 11), GONE);
        CHECKS.due("the new one", plans.plan(16, 11), 3);
        CHECKS.due("used only", plans.counted(11), 0);
        CHECKS.due("pinned ones", plans.counted(1), 3);
    }

    private static void allPinned() {
        DriftPlans plans = Scenes.withFourPinned();
        CHECKS.due("used", plans.run(16), 20);
        CHECKS.due("not kept", plans.plan(16, 7), GONE);
        CHECKS.due("used only", plans.counted(11), 1);
        CHECKS.due("pushed out", plans.counted(8), 0);
        CHECKS.due("kept", plans.counted(0), 4);
        CHECKS.due("made once more", plans.run(16), 20);
        CHECKS.due("used only then", plans.counted(11), 2);
    }

    // ---- runs

    private static void runs() {
        CHECKS.test("that costs 10 for each of its tables", TermsTest::makingCosts);
        CHECKS.test("it is kept, not pinned", TermsTest::newPlansAreLoose);
        CHECKS.test("The run costs the cost of the plan by the rows", TermsTest::runsCostByRows);
        CHECKS.test("the tables of the shape are counted: no others", TermsTest::onlyItsTablesAreCounted);
        CHECKS.test("the tables of the shape are counted: also if it is not kept", TermsTest::countedThoughNotKept);
        CHECKS.test("Then plans that drifted are thrown out: the new one too", TermsTest::newPlanDrifts);
        CHECKS.test("Then plans that drifted are thrown out: others too", TermsTest::otherPlansDrift);
        CHECKS.test("Then plans that drifted are thrown out: after the pushing out", TermsTest::pushedOutFirst);
        CHECKS.test("its guess becomes its rows: also if they are the same", TermsTest::countOfTheSame);
    }

    private static void makingCosts() {
        DriftPlans plans = new DriftPlans();
        int shape = 0;
        int due = 0;
        for (int tables = 1; tables <= 5; tables++) {
            shape = shape * 2 + 1;
            due += 10 * tables;
            CHECKS.due("run", plans.run(shape), 10 * tables + plans.least(shape, true, 0));
            CHECKS.due("making so far", plans.counted(6), due);
        }
        plans.run(31);
        CHECKS.due("a hit costs no making", plans.counted(6), due);
    }

    private static void newPlansAreLoose() {
        DriftPlans plans = Scenes.withPlans(1);
        CHECKS.due("loose", plans.plan(1, 8), 0);
        plans.pin(1);
        plans.forget(1);
        plans.run(1);
        CHECKS.due("loose when made anew", plans.plan(1, 8), 0);
    }

    private static void runsCostByRows() {
        DriftPlans plans = Scenes.withRows(20, 5);
        CHECKS.due("0 goes ahead by guesses", plans.run(3), 20 + 20 + 100);
        CHECKS.due("cost so far", plans.counted(5), 120);
    }

    private static void onlyItsTablesAreCounted() {
        DriftPlans plans = Scenes.withRows(11, 12, 13, 14, 15);
        plans.run(0b01010);
        int[] guesses = {10, 12, 10, 14, 10};
        for (int table = 0; table < 5; table++) {
            CHECKS.due("guess of " + table, plans.table(table, 1), guesses[table]);
        }
    }

    private static void countedThoughNotKept() {
        DriftPlans plans = Scenes.withFourPinned();
        plans.rows(4, 500);
        plans.run(16);
        CHECKS.due("guess", plans.table(4, 1), 500);
        CHECKS.due("a plan that is not kept is not thrown out", plans.counted(7), 0);
    }

    private static void newPlanDrifts() {
        DriftPlans plans = Scenes.withRows(21);
        plans.run(1);
        CHECKS.due("thrown out", plans.counted(7), 1);
        CHECKS.due("kept", plans.counted(0), 0);
        CHECKS.due("a miss again", plans.run(1), 10 + 21);
        CHECKS.due("kept now", plans.counted(0), 1);
    }

    private static void otherPlansDrift() {
        DriftPlans plans = Scenes.withPlans(1, 3, 5, 4);
        plans.rows(0, 21);
        plans.run(1);
        CHECKS.due("thrown out", plans.counted(7), 3);
        CHECKS.due("left", plans.plan(4, 11), 0);
        CHECKS.due("kept", plans.counted(0), 1);
    }

    /** The plan of the shape 1 would drift by this run, but is pushed out before. */
    private static void pushedOutFirst() {
        DriftPlans plans = Scenes.withPlans(1, 2, 4, 8);
        plans.rows(0, 21);
        plans.run(0b10001);
        CHECKS.due("pushed out", plans.counted(8), 1);
        CHECKS.due("drifted, the new one", plans.counted(7), 1);
        CHECKS.due("kept", plans.counted(0), 3);
    }

    private static void countOfTheSame() {
        DriftPlans plans = Scenes.withPlans(1);
        CHECKS.due("thrown out", plans.count(0), 0);
        CHECKS.due("guess", plans.table(0, 1), 10);
        CHECKS.due("kept", plans.counted(0), 1);
    }

    // ---- plans that drifted

    private static void driftedPlans() {
        CHECKS.test("is more than the lesser one times DRIFT: upward", TermsTest::moreThanTwice);
        CHECKS.test("is more than the lesser one times DRIFT: downward", TermsTest::lessThanHalf);
        CHECKS.test("is more than the lesser one times DRIFT: not rounded", TermsTest::driftIsNotRounded);
        CHECKS.test("for one of its tables", TermsTest::oneTableIsEnough);
        CHECKS.test("for one of its tables, not for others", TermsTest::otherTablesDoNotMatter);
        CHECKS.test("the guess of now, not the rows", TermsTest::rowsDoNotMatter);
        CHECKS.test("the guess that is kept with it, not one between", TermsTest::smallStepsAddUp);
        CHECKS.test("Pinned plans are not thrown out for that: by count", TermsTest::pinnedAtCount);
        CHECKS.test("Pinned plans are not thrown out for that: by run", TermsTest::pinnedAtRun);
        CHECKS.test("Pinned plans are not thrown out for that: by drift", TermsTest::pinnedAtDrift);
    }

    private static void moreThanTwice() {
        DriftPlans plans = Scenes.withPlans(1);
        CHECKS.due("20 against 10", Scenes.countAt(plans, 0, 20), 0);
        CHECKS.due("21 against 10", Scenes.countAt(plans, 0, 21), 1);
    }

    private static void lessThanHalf() {
        DriftPlans plans = Scenes.withPlans(1);
        CHECKS.due("5 against 10", Scenes.countAt(plans, 0, 5), 0);
        CHECKS.due("4 against 10", Scenes.countAt(plans, 0, 4), 1);
    }

    /** 10 times 100 is more than 3 times 333 by 1 alone; 1000 divided by 3 would be no more than 333. */
    private static void driftIsNotRounded() {
        DriftPlans plans = Scenes.withPlans(1);
        plans.drift(334);
        CHECKS.due("not by 334", Scenes.countAt(plans, 0, 3), 0);
        CHECKS.due("by 333", plans.drift(333), 1);
    }

    private static void oneTableIsEnough() {
        for (int table = 0; table < 5; table++) {
            DriftPlans plans = Scenes.withPlans(31);
            CHECKS.due("by the table " + table, Scenes.countAt(plans, table, 21), 1);
        }
    }

    private static void otherTablesDoNotMatter() {
        for (int table = 0; table < 5; table++) {
            DriftPlans plans = Scenes.withPlans(31 - (1 << table));
            CHECKS.due("without the table " + table, Scenes.countAt(plans, table, 500), 0);
            CHECKS.due("kept", plans.counted(0), 1);
        }
    }

    private static void rowsDoNotMatter() {
        DriftPlans plans = Scenes.withPlans(1);
        plans.rows(0, 500);
        plans.count(1);
        plans.drift(100);
        CHECKS.due("kept", plans.plan(1, 10), 0);
    }

    private static void smallStepsAddUp() {
        DriftPlans plans = Scenes.withPlans(1);
        CHECKS.due("10 to 15", Scenes.countAt(plans, 0, 15), 0);
        CHECKS.due("15 to 20", Scenes.countAt(plans, 0, 20), 0);
        CHECKS.due("20 to 25", Scenes.countAt(plans, 0, 25), 1);
    }

    private static DriftPlans withPinned() {
        DriftPlans plans = Scenes.withPlans(1);
        plans.pin(1);
        return plans;
    }

    private static void staysPinnedAndDrifted(DriftPlans plans) {
        CHECKS.due("pinned", plans.plan(1, 8), 1);
        CHECKS.due("drifted", plans.plan(1, 10), 1);
        CHECKS.due("thrown out", plans.counted(7), 0);
    }

    private static void pinnedAtCount() {
        DriftPlans plans = withPinned();
        CHECKS.due("count", Scenes.countAt(plans, 0, 500), 0);
        staysPinnedAndDrifted(plans);
    }

    private static void pinnedAtRun() {
        DriftPlans plans = withPinned();
        plans.rows(0, 500);
        CHECKS.due("a hit", plans.run(1), 500);
        staysPinnedAndDrifted(plans);
        CHECKS.due("a hit though it drifted", plans.run(1), 500);
        CHECKS.due("hits", plans.counted(3), 2);
    }

    private static void pinnedAtDrift() {
        DriftPlans plans = withPinned();
        Scenes.countAt(plans, 0, 11);
        CHECKS.due("drift", plans.drift(100), 0);
        staysPinnedAndDrifted(plans);
    }

    // ---- plans that are thrown out by parts

    private static void thrownOutByParts() {
        CHECKS.test("When a part is set (also to what it is)", TermsTest::partToWhatItIs);
        CHECKS.test("all plans whose shapes have both tables", TermsTest::bothTables);
        CHECKS.test("and that are not pinned", TermsTest::pinnedAtPart);
    }

    private static void partToWhatItIs() {
        DriftPlans plans = Scenes.withPlans(3);
        CHECKS.due("to the 100 that it is", plans.part(0, 1, 100), 1);
        plans.part(0, 1, 1);
        plans.run(3);
        CHECKS.due("to the 1 that it is", plans.part(1, 0, 1), 1);
        CHECKS.due("thrown out", plans.counted(9), 2);
    }

    private static void bothTables() {
        DriftPlans plans = Scenes.withPlans(0b00011, 0b00111, 0b11111, 0b01011);
        CHECKS.due("all four", plans.part(0, 1, 50), 4);
        DriftPlans others = Scenes.withPlans(0b00001, 0b00010, 0b11101, 0b11110);
        CHECKS.due("none with only one of both", others.part(0, 1, 50), 0);
        CHECKS.due("kept", others.counted(0), 4);
        CHECKS.due("none with neither", Scenes.withPlans(0b11100).part(1, 0, 50), 0);
    }

    private static void pinnedAtPart() {
        DriftPlans plans = Scenes.withPlans(0b00011, 0b00111);
        plans.pin(0b00011);
        CHECKS.due("only the loose one", plans.part(0, 1, 50), 1);
        CHECKS.due("pinned", plans.plan(0b00011, 8), 1);
        plans.pin(0b00011);
        CHECKS.due("loose then", plans.part(0, 1, 50), 1);
    }

    // ---- settings

    private static void settings() {
        CHECKS.test("DRIFT, 100 to 1000", TermsTest::driftIs100To1000);
        CHECKS.test("at first 200", TermsTest::driftIs200AtFirst);
        CHECKS.test("When it is set, plans that drifted by it are thrown out", TermsTest::driftIsSet);
        CHECKS.test("DRIFT 100: any change is drift", TermsTest::leastDriftOfAll);
        CHECKS.test("DRIFT 1000: up to ten times is no drift", TermsTest::greatestDriftOfAll);
    }

    private static void driftIs100To1000() {
        DriftPlans plans = new DriftPlans();
        CHECKS.due("99", plans.drift(99), DriftPlans.INVALID_ARGUMENT);
        CHECKS.due("1001", plans.drift(1001), DriftPlans.INVALID_ARGUMENT);
        CHECKS.due("DRIFT", plans.counted(2), 200);
        CHECKS.due("100", plans.drift(100), 0);
        CHECKS.due("DRIFT", plans.counted(2), 100);
        CHECKS.due("1000", plans.drift(1000), 0);
        CHECKS.due("DRIFT", plans.counted(2), 1000);
    }

    private static void driftIs200AtFirst() {
        DriftPlans plans = Scenes.withPlans(1);
        CHECKS.due("DRIFT", plans.counted(2), 200);
        CHECKS.due("to what it is", plans.drift(200), 0);
    }

    private static void driftIsSet() {
        DriftPlans plans = Scenes.withPlans(1, 2, 3);
        Scenes.countAt(plans, 0, 15);
        CHECKS.due("150 is just enough", plans.drift(150), 0);
        CHECKS.due("149 is not", plans.drift(149), 2);
        CHECKS.due("none is left to throw out", plans.drift(100), 0);
        CHECKS.due("the other one", plans.plan(2, 11), 0);
    }

    private static void leastDriftOfAll() {
        DriftPlans plans = Scenes.withPlans(1, 2);
        CHECKS.due("the same is no drift", plans.drift(100), 0);
        CHECKS.due("counted the same", plans.count(0), 0);
        CHECKS.due("11 against 10", Scenes.countAt(plans, 0, 11), 1);
        CHECKS.due("9 against 10", Scenes.countAt(plans, 1, 9), 1);
        Scenes.countAt(plans, 2, 500);
        plans.run(4);
        CHECKS.due("499 against 500", Scenes.countAt(plans, 2, 499), 1);
    }

    private static void greatestDriftOfAll() {
        DriftPlans plans = Scenes.withPlans(1, 2);
        plans.drift(1000);
        CHECKS.due("100 against 10", Scenes.countAt(plans, 0, 100), 0);
        CHECKS.due("1 against 10", Scenes.countAt(plans, 1, 1), 0);
        CHECKS.due("101 against 10", Scenes.countAt(plans, 0, 101), 1);
        Scenes.countAt(plans, 2, 500);
        plans.run(4);
        CHECKS.due("50 against 500", Scenes.countAt(plans, 2, 50), 0);
        CHECKS.due("49 against 500", Scenes.countAt(plans, 2, 49), 1);
    }
}
