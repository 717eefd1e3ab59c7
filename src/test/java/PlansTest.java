/** Promises 5 to 8 and 19 to 24: runs, kept plans, accounts, what would be. */
public final class PlansTest {
    private static final Checks CHECKS = new Checks("PlansTest");
    private static final int[] BEYOND_SETS = {0, -1, 32, Integer.MIN_VALUE, Integer.MAX_VALUE};

    public static void main(String[] args) {
        promise5HitsAndMisses();
        promise5CountsItsTables();
        promise5PushesOut();
        promise5UsesOnly();
        promise5TellsAtMostABillion();
        promise6Pin();
        promise7Forget();
        promise8Drift();
        promise19Plan();
        promise19OrderOfRuns();
        promise20Counted();
        promise21Fitness();
        promise22IfCounted();
        promise23IfRun();
        promise24LeastDrift();
        wrongShapes();
        CHECKS.end();
    }

    private static void promise5HitsAndMisses() {
        DriftPlans plans = new DriftPlans();
        CHECKS.due("a miss", plans.run(0b00110), 20 + 110);
        CHECKS.due("a hit", plans.run(0b00110), 110);
        CHECKS.due("a miss with one table", plans.run(0b00010), 10 + 10);
        CHECKS.due("a miss with five", plans.run(31), 50 + 111110);
        CHECKS.due("hits", plans.counted(3), 1);
        CHECKS.due("misses", plans.counted(4), 3);
        CHECKS.due("runs cost", plans.counted(5), 110 + 110 + 10 + 111110);
        CHECKS.due("making cost", plans.counted(6), 20 + 10 + 50);
        CHECKS.due("kept", plans.counted(0), 3);
        CHECKS.due("states", plans.counted(13), 4);
    }

    private static void promise5CountsItsTables() {
        DriftPlans plans = new DriftPlans();
        plans.rows(0, 20);
        plans.rows(1, 3);
        plans.rows(2, 30);
        CHECKS.due("the plan by guesses, the cost by rows", plans.run(0b00011), 20 + 20 + 60);
        CHECKS.due("guess of 0", plans.table(0, 1), 20);
        CHECKS.due("guess of 1", plans.table(1, 1), 3);
        CHECKS.due("guess of 2 stays", plans.table(2, 1), 10);
        CHECKS.due("drifted by its own run", plans.counted(0), 0);
        CHECKS.due("thrown out", plans.counted(7), 1);
        CHECKS.due("made anew, better", plans.run(0b00011), 20 + 3 + 60);
        CHECKS.due("kept now", plans.plan(0b00011, 7), 1);
        plans.rows(0, 50);
        CHECKS.due("another one", plans.run(0b00101), 20 + 30 + 1500);
        CHECKS.due("both drifted", plans.counted(7), 3);
        CHECKS.due("none kept", plans.counted(0), 0);
        CHECKS.due("hits", plans.counted(3), 0);
    }

    private static void promise5PushesOut() {
        DriftPlans plans = new DriftPlans();
        plans.run(1);
        plans.run(2);
        plans.run(4);
        plans.run(8);
        plans.run(1);
        plans.run(16);
        CHECKS.due("pushed out", plans.counted(8), 1);
        CHECKS.due("kept", plans.counted(0), 4);
        CHECKS.due("run longest ago", plans.plan(2, 7), DriftPlans.NOT_FOUND);
        CHECKS.due("run again meanwhile", plans.plan(1, 7), 2);
        plans.pin(4);
        plans.run(2);
        CHECKS.due("pinned it stays", plans.plan(4, 8), 1);
        CHECKS.due("the next one goes", plans.plan(8, 7), DriftPlans.NOT_FOUND);
        CHECKS.due("pushed out then", plans.counted(8), 2);
        CHECKS.due("none is used only", plans.counted(11), 0);
    }

    private static void promise5UsesOnly() {
        DriftPlans plans = new DriftPlans();
        for (int table = 0; table < 4; table++) {
            plans.run(1 << table);
            plans.pin(1 << table);
        }
        plans.rows(4, 7);
        CHECKS.due("used, not kept", plans.run(16), 10 + 7);
        CHECKS.due("used, not kept, again", plans.run(16), 10 + 7);
        CHECKS.due("used only", plans.counted(11), 2);
        CHECKS.due("counted nevertheless", plans.table(4, 1), 7);
        CHECKS.due("pushed out", plans.counted(8), 0);
        CHECKS.due("kept", plans.counted(0), 4);
        CHECKS.due("misses", plans.counted(4), 6);
        CHECKS.due("making cost", plans.counted(6), 60);
        CHECKS.due("runs cost", plans.counted(5), 54);
        CHECKS.due("a pinned one is used", plans.run(1), 10);
        CHECKS.due("hits", plans.counted(3), 1);
    }

    private static void promise5TellsAtMostABillion() {
        DriftPlans plans = new DriftPlans();
        for (int table = 0; table < 5; table++) {
            plans.rows(table, 500);
        }
        CHECKS.due("ifRun above a billion", plans.ifRun(31), 1000000000);
        CHECKS.due("run above a billion", plans.run(31), 1000000000);
        CHECKS.due("runs cost above a billion", plans.counted(5), 1000000000);
        plans.run(0b00111);
        CHECKS.due("the sum stays so", plans.counted(5), 1000000000);
        CHECKS.due("making cost stays exact", plans.counted(6), 80);
    }

    private static void promise6Pin() {
        DriftPlans plans = new DriftPlans();
        CHECKS.due("none to pin", plans.pin(3), DriftPlans.NOT_POSSIBLE);
        CHECKS.due("an error is no change", plans.counted(13), 0);
        plans.run(3);
        plans.run(5);
        CHECKS.due("pinned", plans.pin(3), 1);
        CHECKS.due("is pinned", plans.plan(3, 8), 1);
        CHECKS.due("its place stays", plans.plan(3, 11), 0);
        CHECKS.due("how many", plans.counted(1), 1);
        CHECKS.due("let loose", plans.pin(3), 0);
        CHECKS.due("kept still", plans.plan(3, 8), 0);
        plans.pin(3);
        plans.pin(5);
        plans.rows(1, 21);
        CHECKS.due("count", plans.count(1), 0);
        CHECKS.due("drifted", plans.plan(3, 10), 1);
        CHECKS.due("let loose when drifted", plans.pin(3), 0);
        CHECKS.due("thrown out then", plans.plan(3, 8), DriftPlans.NOT_FOUND);
        CHECKS.due("told as drifted", plans.counted(7), 1);
        CHECKS.due("the other one stays", plans.plan(5, 8), 1);
        CHECKS.due("none to pin then", plans.pin(3), DriftPlans.NOT_POSSIBLE);
    }

    private static void promise7Forget() {
        DriftPlans plans = new DriftPlans();
        CHECKS.due("none to forget", plans.forget(3), DriftPlans.NOT_POSSIBLE);
        CHECKS.due("an error is no change", plans.counted(13), 0);
        plans.run(3);
        plans.run(3);
        plans.run(3);
        plans.run(5);
        plans.pin(5);
        CHECKS.due("forget", plans.forget(3), 3);
        CHECKS.due("forget a pinned one", plans.forget(5), 1);
        CHECKS.due("forgotten", plans.counted(10), 2);
        CHECKS.due("kept", plans.counted(0), 0);
        CHECKS.due("none again", plans.forget(3), DriftPlans.NOT_POSSIBLE);
        CHECKS.due("a change", plans.undo(), 3);
        CHECKS.due("undone", plans.plan(5, 8), 1);
    }

    private static void promise8Drift() {
        DriftPlans plans = new DriftPlans();
        plans.run(1);
        plans.run(3);
        plans.run(2);
        plans.run(17);
        plans.pin(17);
        plans.rows(0, 15);
        CHECKS.due("count", plans.count(0), 0);
        CHECKS.due("drift(150)", plans.drift(150), 0);
        CHECKS.due("drift(149)", plans.drift(149), 2);
        CHECKS.due("thrown out", plans.counted(7), 2);
        CHECKS.due("DRIFT", plans.counted(2), 149);
        CHECKS.due("drift(100)", plans.drift(100), 0);
        CHECKS.due("drift(1000)", plans.drift(1000), 0);
        CHECKS.due("a pinned one drifted no more", plans.plan(17, 10), 0);
        for (int drift : new int[] {99, 1001, 0, -200, Integer.MIN_VALUE, Integer.MAX_VALUE}) {
            CHECKS.due("no such drift", plans.drift(drift), DriftPlans.INVALID_ARGUMENT);
        }
        CHECKS.due("DRIFT after errors", plans.counted(2), 1000);
    }

    private static void promise19Plan() {
        DriftPlans plans = new DriftPlans();
        plans.rows(1, 8);
        plans.rows(4, 9);
        plans.count(1);
        plans.count(4);
        plans.run(0b10011);
        plans.run(0b10011);
        plans.rows(0, 7);
        int[] order = {1, 4, 0, DriftPlans.NOT_FOUND, DriftPlans.NOT_FOUND};
        for (int what = 0; what < 5; what++) {
            CHECKS.due("its table", plans.plan(0b10011, what), order[what]);
        }
        CHECKS.due("cost by rows", plans.plan(0b10011, 5), 8 + 72 + 504);
        CHECKS.due("cost by guesses", plans.plan(0b10011, 6), 8 + 72 + 720);
        CHECKS.due("runs", plans.plan(0b10011, 7), 2);
        CHECKS.due("pinned", plans.plan(0b10011, 8), 0);
        CHECKS.due("more than the best", plans.plan(0b10011, 9), 8 + 72 - 7 - 56);
        CHECKS.due("drifted", plans.plan(0b10011, 10), 0);
        CHECKS.due("place", plans.plan(0b10011, 11), 0);
        CHECKS.due("what -1", plans.plan(0b10011, -1), DriftPlans.INVALID_ARGUMENT);
        CHECKS.due("what 12", plans.plan(0b10011, 12), DriftPlans.INVALID_ARGUMENT);
        CHECKS.due("what 12 of none", plans.plan(1, 12), DriftPlans.INVALID_ARGUMENT);
        CHECKS.due("none kept", plans.plan(1, 5), DriftPlans.NOT_FOUND);
        plans.pin(0b10011);
        plans.rows(0, 500);
        plans.rows(1, 500);
        plans.rows(4, 500);
        plans.count(0);
        CHECKS.due("drifted then", plans.plan(0b10011, 10), 1);
        CHECKS.due("pinned then", plans.plan(0b10011, 8), 1);
        CHECKS.due("cost by rows then", plans.plan(0b10011, 5), 500 + 250000 + 125000000);
        CHECKS.due("cost by guesses then", plans.plan(0b10011, 6), 8 + 72 + 36000);
        manyTables();
    }

    /** The difference is exact though both costs are above what is told. */
    private static void manyTables() {
        DriftPlans plans = new DriftPlans();
        plans.run(31);
        plans.pin(31);
        for (int table = 0; table < 5; table++) {
            plans.rows(table, 500);
        }
        plans.rows(4, 499);
        CHECKS.due("cost by rows", plans.plan(31, 5), 1000000000);
        // sizes 500^k against 499 * 500^(k - 1), for k 1 to 4
        CHECKS.due("more than the best", plans.plan(31, 9), 1 + 500 + 250000 + 125000000);
        plans.rows(4, 1);
        CHECKS.due("much more than the best", plans.plan(31, 9), 1000000000);
    }

    private static void promise19OrderOfRuns() {
        DriftPlans plans = new DriftPlans();
        plans.run(8);
        plans.run(2);
        plans.run(4);
        plans.run(8);
        plans.pin(2);
        CHECKS.due("place of 2", plans.plan(2, 11), 0);
        CHECKS.due("place of 4", plans.plan(4, 11), 1);
        CHECKS.due("place of 8", plans.plan(8, 11), 2);
        plans.forget(4);
        CHECKS.due("place of 8 then", plans.plan(8, 11), 1);
        plans.run(2);
        CHECKS.due("place of 8 when 2 was run", plans.plan(8, 11), 0);
        CHECKS.due("place of 2 when 2 was run", plans.plan(2, 11), 1);
        CHECKS.due("pinned still", plans.plan(2, 8), 1);
        CHECKS.due("runs of 2", plans.plan(2, 7), 2);
    }

    private static void promise20Counted() {
        DriftPlans plans = new DriftPlans();
        plans.run(1);
        plans.run(3);
        plans.run(1);
        plans.run(6);
        plans.pin(6);
        plans.run(12);
        plans.run(24);
        plans.forget(24);
        plans.rows(0, 100);
        plans.count(0);
        plans.part(2, 3, 10);
        plans.drift(300);
        plans.append('q');
        plans.append('0');
        // kept: 6 is left; 3 was pushed out by 24, 1 drifted, 12 had the join, 24 was forgotten
        int[] due = {1, 1, 300, 1, 5, 10 + 110 + 10 + 110 + 110 + 110, 10 + 20 * 4, 1, 1, 1, 1, 0, 2, 4};
        for (int what = 0; what < due.length; what++) {
            CHECKS.due("counted(" + what + ")", plans.counted(what), due[what]);
        }
        for (int what : new int[] {-1, 14, Integer.MIN_VALUE, Integer.MAX_VALUE}) {
            CHECKS.due("counted of no number", plans.counted(what), DriftPlans.INVALID_ARGUMENT);
        }
    }

    private static void promise21Fitness() {
        DriftPlans plans = new DriftPlans();
        CHECKS.dueDouble("without plans", plans.fitness(), 1.0);
        plans.run(0b00011);
        plans.run(0b01100);
        CHECKS.dueDouble("all are the best", plans.fitness(), 1.0);
        plans.rows(0, 100);
        // 100 + 1000 against 10 + 1000, and 110 for the other one
        CHECKS.dueDouble("one is not", plans.fitness(), (1010.0 + 110.0) / (1100.0 + 110.0));
        plans.forget(0b00011);
        plans.forget(0b01100);
        CHECKS.dueDouble("without plans again", plans.fitness(), 1.0);
        for (int table = 0; table < 5; table++) {
            plans.rows(table, 500);
            plans.count(table);
        }
        plans.run(31);
        plans.rows(0, 1);
        // exact above what is told: 500^4 is in both, 500^5 no more
        double least = 1.0 + 500 + 250000 + 125000000 + 62500000000.0;
        double cost = 1.0 + 500 + 250000 + 125000000 + 62500000000.0;
        CHECKS.dueDouble("a first table that is small", plans.fitness(), least / cost);
        plans.rows(0, 500);
        plans.rows(4, 1);
        cost = 500.0 + 250000 + 125000000 + 62500000000.0 + 62500000000.0;
        CHECKS.dueDouble("a last table that is small", plans.fitness(), least / cost);
    }

    private static void promise22IfCounted() {
        DriftPlans plans = new DriftPlans();
        plans.run(0b00011);
        plans.run(0b00101);
        plans.run(0b01100);
        plans.run(0b10001);
        plans.pin(0b10001);
        plans.rows(0, 100);
        plans.rows(3, 11);
        CHECKS.due("would be thrown out by 0", plans.ifCounted(0b00001, 0), 2);
        CHECKS.due("the pinned one would cost more", plans.ifCounted(0b00001, 1), 1);
        CHECKS.due("none by 1, 3", plans.ifCounted(0b01010, 0), 0);
        CHECKS.due("all with 0 would cost more", plans.ifCounted(0b01010, 1), 3);
        CHECKS.due("nothing is changed", plans.table(0, 1), 10);
        CHECKS.due("nothing is thrown out", plans.counted(0), 4);
        CHECKS.due("no state is kept", plans.counted(13), 4);
        CHECKS.due("as it says", plans.count(0), 2);
        CHECKS.due("then none", plans.ifCounted(31, 0), 0);
        CHECKS.due("then one", plans.ifCounted(31, 1), 1);
        for (int set : BEYOND_SETS) {
            CHECKS.due("no set", plans.ifCounted(set, 0), DriftPlans.INVALID_ARGUMENT);
        }
        CHECKS.due("what -1", plans.ifCounted(1, -1), DriftPlans.INVALID_ARGUMENT);
        CHECKS.due("what 2", plans.ifCounted(1, 2), DriftPlans.INVALID_ARGUMENT);
    }

    private static void promise23IfRun() {
        DriftPlans plans = new DriftPlans();
        CHECKS.due("a miss", plans.ifRun(0b00011), 130);
        CHECKS.due("nothing is kept", plans.counted(0), 0);
        CHECKS.due("no state is kept", plans.counted(13), 0);
        CHECKS.due("as it says", plans.run(0b00011), 130);
        CHECKS.due("a hit", plans.ifRun(0b00011), 110);
        plans.rows(0, 100);
        CHECKS.due("a hit with another cost", plans.ifRun(0b00011), 1100);
        CHECKS.due("a miss by guesses", plans.ifRun(0b00001), 110);
        CHECKS.due("misses", plans.counted(4), 1);
        CHECKS.due("hits", plans.counted(3), 0);
        plans.rows(1, 2);
        // by guesses 0 goes ahead of 1, by rows 1 would go ahead
        CHECKS.due("the plan by guesses, the cost by rows", plans.ifRun(0b10011), 30 + 100 + 200 + 2000);
    }

    private static void promise24LeastDrift() {
        DriftPlans plans = new DriftPlans();
        plans.drift(1000);
        plans.run(0b00011);
        CHECKS.due("no drift", plans.leastDrift(), 100);
        plans.rows(1, 3);
        plans.count(1);
        // 10 * 100 > 3 * 333, but not > 3 * 334
        CHECKS.due("rounded up", plans.leastDrift(), 334);
        plans.rows(1, 1);
        plans.count(1);
        CHECKS.due("the highest", plans.leastDrift(), 1000);
        plans.rows(2, 500);
        plans.count(2);
        CHECKS.due("without the table", plans.leastDrift(), 1000);
        plans.pin(0b00011);
        CHECKS.due("pinned ones do not count", plans.leastDrift(), 100);
        plans.run(0b00101);
        plans.rows(0, 15);
        plans.count(0);
        CHECKS.due("loose ones do", plans.leastDrift(), 150);
        CHECKS.due("DRIFT stays", plans.counted(2), 1000);
        CHECKS.due("it throws none out", plans.drift(150), 0);
        CHECKS.due("one less does", plans.drift(149), 1);
    }

    private static void wrongShapes() {
        DriftPlans plans = new DriftPlans();
        plans.run(1);
        for (int set : BEYOND_SETS) {
            CHECKS.due("run", plans.run(set), DriftPlans.INVALID_ARGUMENT);
            CHECKS.due("pin", plans.pin(set), DriftPlans.INVALID_ARGUMENT);
            CHECKS.due("forget", plans.forget(set), DriftPlans.INVALID_ARGUMENT);
            CHECKS.due("plan", plans.plan(set, 0), DriftPlans.INVALID_ARGUMENT);
            CHECKS.due("ifRun", plans.ifRun(set), DriftPlans.INVALID_ARGUMENT);
        }
        CHECKS.due("errors are no changes", plans.counted(13), 1);
    }
}
