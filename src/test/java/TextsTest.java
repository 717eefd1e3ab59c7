/** Promises 9 to 13: the pad, its faults, and scripts. */
public final class TextsTest {
    private static final Checks CHECKS = new Checks("TextsTest");
    private static final int NONE = DriftPlans.NOT_FOUND;

    public static void main(String[] args) {
        promise9Append();
        promise10Clear();
        promise11Fault();
        promise12CarryOut();
        promise12StopsAndFaults();
        promise12IsOneChange();
        promise13Why();
        CHECKS.end();
    }

    private static void promise9Append() {
        DriftPlans plans = new DriftPlans();
        CHECKS.due("append(33)", plans.append(33), 1);
        CHECKS.due("append(126)", plans.append(126), 2);
        for (int code : new int[] {32, 127, 0, -1, 'q' + 65536, Integer.MIN_VALUE, Integer.MAX_VALUE}) {
            CHECKS.due("append(" + code + ")", plans.append(code), DriftPlans.INVALID_ARGUMENT);
        }
        for (int length = 3; length <= 60; length++) {
            CHECKS.due("append", plans.append('q'), length);
        }
        CHECKS.due("append to a full pad", plans.append('q'), DriftPlans.LIMIT_REACHED);
        CHECKS.due("a wrong code to a full pad", plans.append(32), DriftPlans.INVALID_ARGUMENT);
        CHECKS.due("its length", plans.counted(12), 60);
        CHECKS.due("no change", plans.counted(13), 0);
    }

    private static void promise10Clear() {
        DriftPlans plans = new DriftPlans();
        CHECKS.due("clear of nothing", plans.clear(), 0);
        plans.append('x');
        plans.append('y');
        CHECKS.due("clear", plans.clear(), 2);
        CHECKS.due("clear again", plans.clear(), 0);
        CHECKS.due("length", plans.counted(12), 0);
        CHECKS.due("append then", plans.append('q'), 1);
        CHECKS.due("nothing of before is left", plans.fault(), 1);
        CHECKS.due("no change", plans.counted(13), 0);
    }

    private static void promise11Fault() {
        fault("", 0);
        fault("q", 1);
        fault("q0", NONE);
        fault("q01234", NONE);
        fault("q24", NONE);
        fault("q44", 2);
        fault("q43", 2);
        fault("q5", 1);
        fault("q05", 2);
        fault("qq", 1);
        fault("q;", 1);
        fault("q0;", 3);
        fault("q0;;", 3);
        fault(";", 0);
        fault("q0q1", 2);
        fault("q0=1", 2);
        fault("p", 1);
        fault("p013", NONE);
        fault("p10", 2);
        fault("c", 1);
        fault("c4", NONE);
        fault("c5", 1);
        fault("c01", 2);
        fault("r", 1);
        fault("r0", 2);
        fault("r5", 1);
        fault("r0=", 3);
        fault("r01", 2);
        fault("r0=0", 3);
        fault("r0=01", 3);
        fault("r0=1", NONE);
        fault("r4=500", NONE);
        fault("r4=501", 5);
        fault("r4=5000", 6);
        fault("r4=51", NONE);
        fault("r4=510", 5);
        fault("r4=499", NONE);
        fault("r4=4999", 6);
        fault("r4=1;c2;q03;p1", NONE);
        fault("r4=1;c2;q03;p1;x", 15);
        fault("Q0", 0);
        fault("x", 0);
        fault("q0 ", NONE);
        fault("q/", 1);
        fault("r0=:", 3);
        fault("r0=1:", 4);
        fault("c:", 1);
        // longer scripts begin with these, though a pad holds no more
        fault("q0;q0;q0;q0;q0;q0;q0;q0;q0;q0;q0;q0;q0;q0;q0;q0;q0;q0;q0;q0;", 60);
        fault("q01;q0;q0;q0;q0;q0;q0;q0;q0;q0;q0;q0;q0;q0;q0;q0;q0;q0;q0;q0", NONE);
        fault("q01;q0;q0;q0;q0;q0;q0;q0;q0;q0;q0;q0;q0;q0;q0;q0;q0;q0;r0=50", NONE);
    }

    /** Blanks are refused by append, so that a text with one is told without it. */
    private static void fault(String text, int due) {
        DriftPlans plans = new DriftPlans();
        Checks.write(plans, text);
        int length = plans.counted(12);
        CHECKS.due("fault of " + text, plans.fault(), due);
        CHECKS.due("the pad stays", plans.counted(12), length);
        CHECKS.due("carryOut of " + text + " may go", plans.carryOut() == DriftPlans.NOT_POSSIBLE ? 1 : 0,
                due == NONE ? 0 : 1);
        CHECKS.due("the pad then", plans.counted(12), due == NONE ? 0 : length);
        CHECKS.due("changes then", plans.counted(13), due == NONE ? 1 : 0);
    }

    private static void promise12CarryOut() {
        DriftPlans plans = new DriftPlans();
        plans.clear();
        Checks.write(plans, "r0=18;r4=7;c4;q04;p04;p04;q123;r1=400");
        CHECKS.due("deeds done", plans.carryOut(), 8);
        CHECKS.due("pad", plans.counted(12), 0);
        CHECKS.due("rows of 0", plans.table(0, 0), 18);
        CHECKS.due("rows of 4", plans.table(4, 0), 7);
        CHECKS.due("guess of 4", plans.table(4, 1), 7);
        CHECKS.due("guess of 0", plans.table(0, 1), 18);
        CHECKS.due("rows of 1", plans.table(1, 0), 400);
        CHECKS.due("guess of 1", plans.table(1, 1), 10);
        CHECKS.due("pinned twice stays pinned", plans.plan(0b10001, 8), 1);
        CHECKS.due("its first table", plans.plan(0b10001, 0), 4);
        CHECKS.due("loose", plans.plan(0b01110, 8), 0);
        CHECKS.due("misses", plans.counted(4), 2);
        CHECKS.due("runs cost", plans.counted(5), 7 + 126 + 1110);
        CHECKS.due("nothing to tell", plans.why(0), DriftPlans.NOT_FOUND);
        Checks.write(plans, "r0=100;c0;c1;q123");
        CHECKS.due("deeds that throw plans out", plans.carryOut(), 4);
        CHECKS.due("drifted", plans.counted(7), 1);
        CHECKS.due("a drifted one that is pinned", plans.plan(0b10001, 10), 1);
        CHECKS.due("made anew", plans.plan(0b01110, 0), 2);
    }

    private static void promise12StopsAndFaults() {
        DriftPlans plans = new DriftPlans();
        Checks.write(plans, "q0;r3=9;p1;q1;p0");
        CHECKS.due("up to the error", plans.carryOut(), 2);
        CHECKS.due("what was done stays", plans.table(3, 0), 9);
        CHECKS.due("what follows is not done", plans.plan(2, 7), DriftPlans.NOT_FOUND);
        CHECKS.due("not pinned", plans.plan(1, 8), 0);
        CHECKS.due("the pad is empty", plans.counted(12), 0);
        CHECKS.due("an empty pad", plans.carryOut(), DriftPlans.NOT_POSSIBLE);
        Checks.write(plans, "q1;p0;x");
        CHECKS.due("a fault", plans.carryOut(), DriftPlans.NOT_POSSIBLE);
        CHECKS.due("nothing is done", plans.plan(2, 7), DriftPlans.NOT_FOUND);
        CHECKS.due("the pad stays", plans.counted(12), 7);
        CHECKS.due("one state", plans.counted(13), 1);
    }

    private static void promise12IsOneChange() {
        DriftPlans plans = new DriftPlans();
        Checks.write(plans, "q0;q1;q2;r0=3;c0;p1");
        CHECKS.due("deeds", plans.carryOut(), 6);
        CHECKS.due("states", plans.counted(13), 1);
        CHECKS.due("undone at once", plans.undo(), 0);
        CHECKS.due("rows", plans.table(0, 0), 10);
        CHECKS.due("kept", plans.counted(0), 0);
        CHECKS.due("misses", plans.counted(4), 0);
        Checks.write(plans, "p0");
        CHECKS.due("none is done", plans.carryOut(), 0);
        CHECKS.due("one change nevertheless", plans.counted(13), 1);
        CHECKS.due("the pad is empty nevertheless", plans.counted(12), 0);
    }

    private static void promise13Why() {
        DriftPlans plans = new DriftPlans();
        CHECKS.due("no call yet", plans.why(0), DriftPlans.NOT_FOUND);
        CHECKS.due("no call yet", plans.why(1), DriftPlans.NOT_FOUND);
        Checks.write(plans, "r0=123;q01;p12;c3");
        plans.save();
        CHECKS.due("two are done", plans.carryOut(), 2);
        CHECKS.due("its number", plans.why(0), 2);
        CHECKS.due("its letter", plans.why(1), 11);
        CHECKS.due("a call with an error", plans.carryOut(), DriftPlans.NOT_POSSIBLE);
        CHECKS.due("does not count", plans.why(0), 2);
        plans.undo();
        CHECKS.due("not undone", plans.why(1), 11);
        plans.restore();
        CHECKS.due("not restored", plans.why(1), 11);
        for (int what : new int[] {-1, 2, Integer.MIN_VALUE, Integer.MAX_VALUE}) {
            CHECKS.due("why of no number", plans.why(what), DriftPlans.INVALID_ARGUMENT);
        }
        Checks.write(plans, "p3");
        plans.carryOut();
        CHECKS.due("the first deed", plans.why(0), 0);
        CHECKS.due("its letter", plans.why(1), 0);
        Checks.write(plans, "q0;p0");
        CHECKS.due("all are done", plans.carryOut(), 2);
        CHECKS.due("nothing to tell", plans.why(0), DriftPlans.NOT_FOUND);
        CHECKS.due("nothing to tell", plans.why(1), DriftPlans.NOT_FOUND);
        CHECKS.due("wrong even so", plans.why(2), DriftPlans.INVALID_ARGUMENT);
    }
}
