/** Promises 25 to 27: undo, save, restore. */
public final class HistoryTest {
    private static final Checks CHECKS = new Checks("HistoryTest");

    public static void main(String[] args) {
        promise25Undo();
        promise25UndoOfEachChange();
        promise25EachChangeIsAState();
        promise25LooksAreNoChanges();
        promise25LeavesThePad();
        promise26Save();
        promise27Restore();
        promise27RestoresEverything();
        promise27RestoresAccounts();
        CHECKS.end();
    }

    private static void promise25Undo() {
        DriftPlans plans = new DriftPlans();
        CHECKS.due("nothing to undo", plans.undo(), DriftPlans.NOT_POSSIBLE);
        for (int rows = 1; rows <= 6; rows++) {
            plans.rows(0, rows);
            CHECKS.due("states", plans.counted(13), Math.min(rows, 4));
        }
        for (int states = 3; states >= 0; states--) {
            CHECKS.due("undo", plans.undo(), states);
            CHECKS.due("rows then", plans.table(0, 0), states + 2);
        }
        CHECKS.due("the oldest ones are dropped", plans.undo(), DriftPlans.NOT_POSSIBLE);
        CHECKS.due("rows at last", plans.table(0, 0), 2);
        plans.rows(0, 9);
        CHECKS.due("a change after that", plans.counted(13), 1);
        plans.rows(0, 9);
        CHECKS.due("a change that changes nothing", plans.counted(13), 2);
    }

    private static void promise25UndoOfEachChange() {
        DriftPlans plans = new DriftPlans();
        plans.run(3);
        plans.run(3);
        plans.part(0, 1, 50);
        CHECKS.due("thrown out", plans.counted(0), 0);
        plans.undo();
        CHECKS.due("undo of part", plans.partOf(1, 0), 100);
        CHECKS.due("the plan is back", plans.plan(3, 7), 2);
        CHECKS.due("the account too", plans.counted(9), 0);
        plans.run(3);
        plans.undo();
        CHECKS.due("undo of run", plans.plan(3, 7), 2);
        CHECKS.due("hits", plans.counted(3), 1);
        CHECKS.due("runs cost", plans.counted(5), 220);
        plans.pin(3);
        plans.undo();
        CHECKS.due("undo of pin", plans.plan(3, 8), 0);
        plans.forget(3);
        plans.undo();
        CHECKS.due("undo of forget", plans.counted(10), 0);
        CHECKS.due("kept", plans.counted(0), 1);
        plans.rows(1, 100);
        plans.count(1);
        CHECKS.due("drifted", plans.counted(7), 1);
        plans.undo();
        CHECKS.due("undo of count", plans.table(1, 1), 10);
        CHECKS.due("not drifted", plans.counted(7), 0);
        plans.undo();
        CHECKS.due("undo of rows", plans.table(1, 0), 10);
        plans.drift(777);
        plans.undo();
        CHECKS.due("undo of drift", plans.counted(2), 200);
    }

    private static void promise25EachChangeIsAState() {
        DriftPlans plans = new DriftPlans();
        plans.rows(0, 10);
        CHECKS.due("rows is a state", plans.undo(), 0);
        plans.part(0, 1, 100);
        CHECKS.due("part is a state", plans.undo(), 0);
        plans.count(0);
        CHECKS.due("count is a state", plans.undo(), 0);
        plans.drift(200);
        CHECKS.due("drift is a state", plans.undo(), 0);
        plans.save();
        plans.restore();
        CHECKS.due("restore is a state", plans.undo(), 0);
        Checks.write(plans, "p0");
        plans.carryOut();
        CHECKS.due("carryOut is a state", plans.undo(), 0);
        plans.run(1);
        CHECKS.due("run is a state", plans.counted(13), 1);
        plans.pin(1);
        CHECKS.due("pin is a state", plans.counted(13), 2);
        plans.forget(1);
        CHECKS.due("forget is a state", plans.counted(13), 3);
        CHECKS.due("undo of all", plans.undo() + plans.undo() + plans.undo(), 3);
    }

    private static void promise25LooksAreNoChanges() {
        DriftPlans plans = new DriftPlans();
        plans.rows(0, 20);
        plans.save();
        plans.append('q');
        plans.fault();
        plans.clear();
        plans.why(0);
        plans.table(0, 0);
        plans.partOf(0, 1);
        plans.size(3, true);
        plans.least(3, true, 0);
        plans.best(3, true, 0);
        plans.plan(3, 0);
        plans.counted(0);
        plans.fitness();
        plans.ifCounted(3, 0);
        plans.ifRun(3);
        plans.leastDrift();
        CHECKS.due("one state", plans.counted(13), 1);
        CHECKS.due("undo", plans.undo(), 0);
        CHECKS.due("rows", plans.table(0, 0), 10);
    }

    private static void promise25LeavesThePad() {
        DriftPlans plans = new DriftPlans();
        Checks.write(plans, "q0");
        plans.rows(0, 20);
        plans.append('1');
        plans.undo();
        CHECKS.due("the pad stays", plans.counted(12), 3);
        plans.carryOut();
        CHECKS.due("carried out", plans.plan(3, 7), 1);
        plans.undo();
        CHECKS.due("the pad does not come back", plans.counted(12), 0);
        CHECKS.due("not carried out", plans.counted(0), 0);
    }

    private static void promise26Save() {
        DriftPlans plans = new DriftPlans();
        CHECKS.due("save of no plans", plans.save(), 0);
        plans.run(1);
        plans.run(2);
        plans.run(1);
        CHECKS.due("save", plans.save(), 2);
        CHECKS.due("no change", plans.counted(13), 3);
        plans.undo();
        plans.undo();
        CHECKS.due("kept", plans.counted(0), 1);
        CHECKS.due("the snapshot is not undone", plans.restore(), 2);
        CHECKS.due("runs", plans.plan(1, 7), 2);
        plans.forget(1);
        CHECKS.due("save in its place", plans.save(), 1);
        plans.run(1);
        CHECKS.due("restore of that", plans.restore(), 1);
        CHECKS.due("runs", plans.plan(1, 7), DriftPlans.NOT_FOUND);
    }

    private static void promise27Restore() {
        DriftPlans plans = new DriftPlans();
        CHECKS.due("no snapshot", plans.restore(), DriftPlans.NOT_POSSIBLE);
        CHECKS.due("an error is no change", plans.counted(13), 0);
        plans.rows(0, 20);
        plans.save();
        plans.rows(0, 30);
        CHECKS.due("restore", plans.restore(), 0);
        CHECKS.due("rows", plans.table(0, 0), 20);
        CHECKS.due("the history is not restored", plans.counted(13), 3);
        CHECKS.due("undo of restore", plans.undo(), 2);
        CHECKS.due("rows before", plans.table(0, 0), 30);
        CHECKS.due("restore again", plans.restore(), 0);
        plans.rows(0, 40);
        plans.run(1);
        CHECKS.due("the snapshot stays", plans.restore(), 0);
        CHECKS.due("rows again", plans.table(0, 0), 20);
        CHECKS.due("states", plans.counted(13), 4);
    }

    private static void promise27RestoresEverything() {
        DriftPlans plans = new DriftPlans();
        plans.rows(0, 15);
        plans.part(0, 1, 50);
        plans.drift(300);
        plans.run(3);
        plans.run(3);
        plans.run(4);
        plans.pin(4);
        plans.save();
        int[] before = new int[12];
        for (int what = 0; what < 12; what++) {
            before[what] = plans.counted(what);
        }
        Checks.write(plans, "r0=99;r1=88;c1;q3;q23;p23");
        plans.carryOut();
        plans.part(0, 1, 60);
        plans.drift(100);
        plans.pin(4);
        plans.forget(4);
        Checks.write(plans, "q4");
        CHECKS.due("restore", plans.restore(), 2);
        for (int what = 0; what < 12; what++) {
            CHECKS.due("counted(" + what + ")", plans.counted(what), before[what]);
        }
        CHECKS.due("the pad stays", plans.counted(12), 2);
        CHECKS.due("rows", plans.table(0, 0), 15);
        CHECKS.due("guess", plans.table(0, 1), 15);
        CHECKS.due("other guess", plans.table(1, 1), 10);
        CHECKS.due("part", plans.partOf(1, 0), 50);
        CHECKS.due("runs", plans.plan(3, 7), 2);
        CHECKS.due("pinned", plans.plan(4, 8), 1);
        CHECKS.due("place", plans.plan(4, 11), 1);
    }

    private static void promise27RestoresAccounts() {
        DriftPlans plans = new DriftPlans();
        for (int turn = 0; turn < 2; turn++) {
            usesAllAccounts(plans);
            if (turn == 0) {
                plans.save();
            }
        }
        for (int what = 7; what <= 11; what++) {
            CHECKS.holds("counted(" + what + ") grew", plans.counted(what) > 1);
        }
        plans.restore();
        for (int what = 7; what <= 11; what++) {
            CHECKS.due("counted(" + what + ") of the snapshot", plans.counted(what), what == 10 ? 4 : 1);
        }
        plans.undo();
        CHECKS.due("counted(10) before", plans.counted(10), 8);
    }

    /** One drifted, one pushed out, one thrown out by a part, four forgotten, one used only; none is left. */
    private static void usesAllAccounts(DriftPlans plans) {
        plans.run(1);
        plans.rows(0, plans.table(0, 0) == 10 ? 100 : 10);
        plans.count(0);
        plans.run(0b00110);
        plans.part(1, 2, 100);
        int[] shapes = {2, 1, 4, 8, 16};
        for (int shape : shapes) {
            plans.run(shape);
        }
        for (int place = 1; place < 5; place++) {
            plans.pin(shapes[place]);
        }
        plans.run(31);
        for (int place = 1; place < 5; place++) {
            plans.forget(shapes[place]);
        }
    }
}
