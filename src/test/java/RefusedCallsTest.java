import java.util.function.Function;
import java.util.function.Supplier;
import java.util.function.ToDoubleFunction;
import java.util.function.ToIntFunction;

/**
 * Each way in which a call is refused has a test of its own: the error that is due, and that nothing is changed by it,
 * neither what can be seen at once nor what comes forth as all is undone, carried out, or restored.
 */
public final class RefusedCallsTest {
    private static final Checks CHECKS = new Checks("RefusedCallsTest");
    private static final int INVALID = DriftPlans.INVALID_ARGUMENT;
    private static final int NOT_POSSIBLE = DriftPlans.NOT_POSSIBLE;
    private static final int LIMIT = DriftPlans.LIMIT_REACHED;
    private static final int NOT_FOUND = DriftPlans.NOT_FOUND;

    public static void main(String[] args) {
        wrongTables();
        wrongSets();
        wrongNumbers();
        notPossible();
        limitReached();
        notFound();
        whichErrorComesFirst();
        looksChangeNothing();
        CHECKS.end();
    }

    private static void refused(String call, Supplier<DriftPlans> scene, ToIntFunction<DriftPlans> body, int due) {
        CHECKS.test(call + " is refused and changes nothing", () -> {
            answersSo(scene, body, due);
            changesNothing(scene, body::applyAsInt);
        });
    }

    private static void answersSo(Supplier<DriftPlans> scene, ToIntFunction<DriftPlans> body, int due) {
        DriftPlans plans = scene.get();
        CHECKS.due("the call", body.applyAsInt(plans), due);
        CHECKS.due("the same call again", body.applyAsInt(plans), due);
    }

    private static void changesNothing(Supplier<DriftPlans> scene, Function<DriftPlans, Object> body) {
        sameThen("what is seen", scene, body, Scenes::looks);
        sameThen("what is seen of numbers", scene, body, Scenes::looksAtNumbers);
        sameThen("what is undone", scene, body, Scenes::looksBack);
        sameThen("what is carried out", scene, body, Scenes::looksOnward);
        sameThen("what is restored", scene, body, Scenes::looksRestored);
    }

    private static void sameThen(String what, Supplier<DriftPlans> scene, Function<DriftPlans, Object> body,
            Function<DriftPlans, String> view) {
        DriftPlans plans = scene.get();
        body.apply(plans);
        CHECKS.dueText(what, view.apply(plans), view.apply(scene.get()));
    }

    private static void refused(String call, ToIntFunction<DriftPlans> body, int due) {
        refused(call, Scenes::busy, body, due);
    }

    private static void wrongTables() {
        for (int wrong : Scenes.BEYOND_TABLES) {
            refused("rows(" + wrong + ", 10)", plans -> plans.rows(wrong, 10), INVALID);
            refused("part(" + wrong + ", 0, 5)", plans -> plans.part(wrong, 0, 5), INVALID);
            refused("part(0, " + wrong + ", 5)", plans -> plans.part(0, wrong, 5), INVALID);
            refused("count(" + wrong + ")", plans -> plans.count(wrong), INVALID);
            refused("table(" + wrong + ", 0)", plans -> plans.table(wrong, 0), INVALID);
            refused("partOf(" + wrong + ", 0)", plans -> plans.partOf(wrong, 0), INVALID);
            refused("partOf(0, " + wrong + ")", plans -> plans.partOf(0, wrong), INVALID);
        }
        for (int table = 0; table < 5; table++) {
            int same = table;
            refused("part(" + same + ", " + same + ", 5)", plans -> plans.part(same, same, 5), INVALID);
            refused("partOf(" + same + ", " + same + ")", plans -> plans.partOf(same, same), INVALID);
        }
    }

    private static void wrongSets() {
        for (int wrong : Scenes.BEYOND_SETS) {
            refused("run(" + wrong + ")", plans -> plans.run(wrong), INVALID);
            refused("pin(" + wrong + ")", plans -> plans.pin(wrong), INVALID);
            refused("forget(" + wrong + ")", plans -> plans.forget(wrong), INVALID);
            refused("size(" + wrong + ", true)", plans -> plans.size(wrong, true), INVALID);
            refused("size(" + wrong + ", false)", plans -> plans.size(wrong, false), INVALID);
            refused("least(" + wrong + ", true, 0)", plans -> plans.least(wrong, true, 0), INVALID);
            refused("least(" + wrong + ", false, 1)", plans -> plans.least(wrong, false, 1), INVALID);
            refused("best(" + wrong + ", true, 0)", plans -> plans.best(wrong, true, 0), INVALID);
            refused("plan(" + wrong + ", 7)", plans -> plans.plan(wrong, 7), INVALID);
            refused("ifCounted(" + wrong + ", 0)", plans -> plans.ifCounted(wrong, 0), INVALID);
            refused("ifRun(" + wrong + ")", plans -> plans.ifRun(wrong), INVALID);
        }
    }

    private static void wrongNumbers() {
        wrongNumbers("rows(0, rows)", DriftPlans::rows, 1, 500);
        wrongNumbers("part(0, 1, part)", (plans, table, part) -> plans.part(table, 1, part), 1, 100);
        wrongNumbers("drift(drift)", (plans, ignored, drift) -> plans.drift(drift), 100, 1000);
        wrongNumbers("append(code)", (plans, ignored, code) -> plans.append(code), 33, 126);
        wrongNumbers("why(what)", (plans, ignored, what) -> plans.why(what), 0, 1);
        wrongNumbers("table(0, what)", DriftPlans::table, 0, 3);
        wrongNumbers("least(1, true, way)", (plans, ignored, way) -> plans.least(1, true, way), 0, 1);
        wrongNumbers("plan(3, what)", (plans, ignored, what) -> plans.plan(3, what), 0, 11);
        wrongNumbers("counted(what)", (plans, ignored, what) -> plans.counted(what), 0, 13);
        wrongNumbers("ifCounted(1, what)", (plans, ignored, what) -> plans.ifCounted(1, what), 0, 1);
        for (int wrong : new int[] {-1, -4, Integer.MIN_VALUE}) {
            refused("best(3, true, " + wrong + ")", plans -> plans.best(3, true, wrong), INVALID);
        }
    }

    private interface Call {
        int of(DriftPlans plans, int table, int number);
    }

    private static void wrongNumbers(String name, Call call, int least, int most) {
        int[] wrongs = {least - 1, most + 1, -least - 1, least + 256, least + 65536, Integer.MIN_VALUE,
            Integer.MIN_VALUE + least, Integer.MAX_VALUE};
        for (int wrong : wrongs) {
            if (wrong < least || wrong > most) {
                refused(name + " with " + wrong, plans -> call.of(plans, 0, wrong), INVALID);
            }
        }
    }

    private static void notPossible() {
        refused("pin(8), not kept,", plans -> plans.pin(8), NOT_POSSIBLE);
        refused("pin(8) of a new object", DriftPlans::new, plans -> plans.pin(8), NOT_POSSIBLE);
        refused("forget(8), not kept,", plans -> plans.forget(8), NOT_POSSIBLE);
        refused("forget(8) of a new object", DriftPlans::new, plans -> plans.forget(8), NOT_POSSIBLE);
        refused("carryOut() of a wrong pad", () -> padded("q0;p1;x"), DriftPlans::carryOut, NOT_POSSIBLE);
        refused("carryOut() of an incomplete pad", () -> padded("q0;p"), DriftPlans::carryOut, NOT_POSSIBLE);
        refused("carryOut() of an empty pad", () -> padded(""), DriftPlans::carryOut, NOT_POSSIBLE);
        refused("undo() without a state", RefusedCallsTest::withoutStates, DriftPlans::undo, NOT_POSSIBLE);
        refused("undo() of a new object", DriftPlans::new, DriftPlans::undo, NOT_POSSIBLE);
        refused("restore() without a snapshot", RefusedCallsTest::withoutSnapshot, DriftPlans::restore, NOT_POSSIBLE);
        refused("restore() of a new object", DriftPlans::new, DriftPlans::restore, NOT_POSSIBLE);
    }

    private static DriftPlans padded(String text) {
        DriftPlans plans = Scenes.busy();
        Checks.write(plans, text);
        return plans;
    }

    private static DriftPlans withoutStates() {
        DriftPlans plans = Scenes.busy();
        for (int state = 0; state < 4; state++) {
            plans.undo();
        }
        return plans;
    }

    private static DriftPlans withoutSnapshot() {
        DriftPlans plans = Scenes.withPlans(1, 3, 1);
        plans.pin(3);
        Checks.write(plans, "q2;q3");
        return plans;
    }

    private static void limitReached() {
        refused("append('q') to a full pad", Scenes::withFullPad, plans -> plans.append('q'), LIMIT);
        refused("append(33) to a full pad", Scenes::withFullPad, plans -> plans.append(33), LIMIT);
        refused("append(126) to a full pad", Scenes::withFullPad, plans -> plans.append(126), LIMIT);
    }

    private static void notFound() {
        refused("fault() of a whole script", DriftPlans::fault, NOT_FOUND);
        refused("why(0) without a carryOut()", Scenes::withFullPad, plans -> plans.why(0), NOT_FOUND);
        refused("why(1) without a carryOut()", Scenes::withFullPad, plans -> plans.why(1), NOT_FOUND);
        refused("why(0) when all was done", RefusedCallsTest::allDone, plans -> plans.why(0), NOT_FOUND);
        refused("why(1) when all was done", RefusedCallsTest::allDone, plans -> plans.why(1), NOT_FOUND);
        for (int place : new int[] {2, 4, 5, 32, Integer.MAX_VALUE}) {
            refused("best(3, true, " + place + ")", plans -> plans.best(3, true, place), NOT_FOUND);
        }
        refused("best(31, false, 5)", plans -> plans.best(31, false, 5), NOT_FOUND);
        for (int what = 0; what <= 11; what++) {
            int number = what;
            refused("plan(8, " + number + "), not kept,", plans -> plans.plan(8, number), NOT_FOUND);
        }
        for (int what = 2; what <= 4; what++) {
            int place = what;
            refused("plan(3, " + place + ") of two tables", plans -> plans.plan(3, place), NOT_FOUND);
        }
        refused("plan(16, 1) of one table", plans -> plans.plan(16, 1), NOT_FOUND);
    }

    private static DriftPlans allDone() {
        DriftPlans plans = Scenes.busy();
        plans.carryOut();
        Checks.write(plans, "c0");
        return plans;
    }

    /** "If several errors apply to a call": no call can be both NOT_POSSIBLE and anything below that. */
    private static void whichErrorComesFirst() {
        for (int wrong : Scenes.BEYOND_SETS) {
            refused("pin(" + wrong + "), not kept either,", DriftPlans::new, plans -> plans.pin(wrong), INVALID);
            refused("forget(" + wrong + "), not kept either,", DriftPlans::new, plans -> plans.forget(wrong), INVALID);
            refused("best(" + wrong + ", true, 5), not so many either,", plans -> plans.best(wrong, true, 5), INVALID);
            refused("plan(" + wrong + ", 3), not kept either,", DriftPlans::new, plans -> plans.plan(wrong, 3), INVALID);
        }
        for (int wrong : new int[] {-1, 12, Integer.MIN_VALUE, Integer.MAX_VALUE}) {
            refused("plan(8, " + wrong + "), not kept either,", plans -> plans.plan(8, wrong), INVALID);
        }
        for (int wrong : new int[] {32, 127, -1, 'q' + 256, Integer.MAX_VALUE}) {
            refused("append(" + wrong + ") to a full pad", Scenes::withFullPad, plans -> plans.append(wrong), INVALID);
        }
        for (int wrong : new int[] {-1, 2, Integer.MAX_VALUE}) {
            refused("why(" + wrong + ") without a carryOut()", DriftPlans::new, plans -> plans.why(wrong), INVALID);
            refused("why(" + wrong + ") when all was done", RefusedCallsTest::allDone, plans -> plans.why(wrong),
                    INVALID);
        }
    }

    private static void look(String call, ToDoubleFunction<DriftPlans> body) {
        CHECKS.test("looks; nothing is changed: " + call, () -> changesNothing(Scenes::busy, body::applyAsDouble));
    }

    private static void looksChangeNothing() {
        look("fault()", DriftPlans::fault);
        for (String text : new String[] {"", "x", "q0;x;q1", "q0;r1=", "c0;".repeat(20)}) {
            CHECKS.test("looks; nothing is changed: fault() of '" + text + "'",
                    () -> changesNothing(() -> padded(text), DriftPlans::fault));
        }
        for (int number = 0; number <= 13; number++) {
            int what = number;
            look("why(what)", plans -> plans.why(what % 2));
            look("table(table, what)", plans -> plans.table(what % 5, what % 4));
            look("partOf(table, other)", plans -> plans.partOf(what % 5, (what + 1) % 5));
            look("plan(3, " + what + ")", plans -> plans.plan(3, what));
            look("plan(12, " + what + ")", plans -> plans.plan(12, what));
            look("counted(" + what + ")", plans -> plans.counted(what));
        }
        for (int set = 1; set <= 31; set++) {
            int shape = set;
            look("size(" + shape + ")", plans -> plans.size(shape, true) + plans.size(shape, false));
            look("least(" + shape + ")", plans -> plans.least(shape, true, 0) + plans.least(shape, false, 1));
            look("best(" + shape + ")", plans -> plans.best(shape, true, 0) + plans.best(shape, false, 4));
            look("ifCounted(" + shape + ")", plans -> plans.ifCounted(shape, 0) + plans.ifCounted(shape, 1));
            look("ifRun(" + shape + ")", plans -> plans.ifRun(shape));
        }
        look("fitness()", DriftPlans::fitness);
        look("leastDrift()", DriftPlans::leastDrift);
    }
}
