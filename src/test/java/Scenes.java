/** Objects in a state that tests begin with, and texts of what can be seen of an object. */
final class Scenes {
    static final int[] BEYOND_TABLES = {-1, 5, -5, 8, 32, 256, 65536, Integer.MIN_VALUE, Integer.MIN_VALUE + 4,
        Integer.MAX_VALUE};
    static final int[] BEYOND_SETS = {0, 32, -1, -31, 33, 63, 256, 65537, Integer.MIN_VALUE, Integer.MIN_VALUE + 1,
        Integer.MAX_VALUE};
    static final int[] SINGLES = {1, 2, 4, 8};
    private static final int[] SEEN_SHAPES = {1, 2, 3, 4, 5, 8, 12, 16, 31};

    private Scenes() {
    }

    static DriftPlans withRows(int... rows) {
        DriftPlans plans = new DriftPlans();
        for (int table = 0; table < rows.length; table++) {
            plans.rows(table, rows[table]);
        }
        return plans;
    }

    static DriftPlans withPlans(int... shapes) {
        DriftPlans plans = new DriftPlans();
        for (int shape : shapes) {
            plans.run(shape);
        }
        return plans;
    }

    /** Four kept plans, all of them pinned; none has the table 4. */
    static DriftPlans withFourPinned() {
        DriftPlans plans = withPlans(SINGLES);
        for (int shape : SINGLES) {
            plans.pin(shape);
        }
        return plans;
    }

    static DriftPlans withPad(String text) {
        if (text.length() > 60) {
            throw new IllegalArgumentException("no pad holds " + text);
        }
        DriftPlans plans = new DriftPlans();
        Checks.write(plans, text);
        return plans;
    }

    static DriftPlans withFullPad() {
        return withPad("q0;".repeat(20));
    }

    /** The guess of a table becomes these rows. */
    static int countAt(DriftPlans plans, int table, int rows) {
        plans.rows(table, rows);
        return plans.count(table);
    }

    static int carryOut(DriftPlans plans, String text) {
        Checks.write(plans, text);
        return plans.carryOut();
    }

    static int faultOf(String text) {
        return withPad(text).fault();
    }

    /**
     * Of everything something: all accounts, kept plans, loose, pinned and drifted, four states, a snapshot that is
     * unlike the state of now, a script on the pad, and a deed at which an earlier one stopped.
     */
    static DriftPlans busy() {
        DriftPlans plans = new DriftPlans();
        useAllAccounts(plans);
        plans.part(0, 1, 50);
        plans.part(2, 3, 7);
        plans.rows(0, 12);
        plans.run(3);
        plans.run(12);
        plans.run(16);
        plans.run(12);
        plans.pin(12);
        plans.save();
        carryOut(plans, "r2=99;c2;p1");
        plans.drift(300);
        plans.rows(1, 14);
        plans.run(5);
        Checks.write(plans, "q01;r1=5");
        return plans;
    }

    /**
     * Two hits, seven misses; a plan is pushed out, one is not kept, one is thrown out by a part, one for its drift, and
     * the other three are forgotten. The rows and the guesses are 10 then, as at first.
     */
    static void useAllAccounts(DriftPlans plans) {
        for (int shape : new int[] {2, 1, 3, 4, 8, 1, 3}) {
            plans.run(shape);
        }
        plans.pin(1);
        plans.pin(3);
        plans.pin(4);
        plans.pin(8);
        plans.run(16);
        plans.pin(3);
        plans.part(1, 0, 100);
        plans.rows(4, 21);
        plans.run(16);
        plans.rows(4, 10);
        plans.count(4);
        plans.forget(1);
        plans.forget(4);
        plans.forget(8);
    }

    /** What can be seen by calls that change nothing; well under a hundred calls. */
    static String looks(DriftPlans plans) {
        return "why " + plans.why(0) + " " + plans.why(1) + looksAtNumbers(plans) + " fault " + plans.fault();
    }

    /** Sizes go ahead, so that a table() that counted it would be seen. */
    static String looksAtNumbers(DriftPlans plans) {
        StringBuilder text = new StringBuilder(" sizes ").append(plans.size(31, false)).append(' ')
                .append(plans.size(31, true));
        for (int table = 0; table < 5; table++) {
            text.append(" rows ").append(plans.table(table, 0)).append(" guess ").append(plans.table(table, 1));
            for (int other = 0; other < table; other++) {
                text.append(" part ").append(plans.partOf(table, other));
            }
        }
        for (int what = 0; what <= 13; what++) {
            text.append(" counted ").append(plans.counted(what));
        }
        for (int shape : SEEN_SHAPES) {
            if (plans.plan(shape, 11) >= 0) {
                text.append(" plan ").append(shape);
                for (int what : new int[] {0, 7, 8, 11}) {
                    text.append(' ').append(plans.plan(shape, what));
                }
            }
        }
        return text.toString();
    }

    /** What can be seen as the whole history is undone. */
    static String looksBack(DriftPlans plans) {
        StringBuilder text = new StringBuilder();
        for (int state = 0; state <= 4; state++) {
            text.append(plans.undo()).append(':').append(looks(plans)).append('\n');
        }
        return text.toString();
    }

    /** What can be seen as the pad is carried out. */
    static String looksOnward(DriftPlans plans) {
        return plans.carryOut() + ":" + looks(plans);
    }

    /** What can be seen as the snapshot is restored. */
    static String looksRestored(DriftPlans plans) {
        return plans.restore() + ":" + looks(plans);
    }
}
