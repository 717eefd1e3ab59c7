/** Long runs of calls, each answer against that of Model; the same runs every time. */
public final class ModelTest {
    private static final Checks CHECKS = new Checks("ModelTest");
    private static final int RUNS = 400;
    /** One less than may be made: the last one may be two. */
    private static final int CALLS = 511;
    private static final int[] WRONG = {-1, 5, 6, 12, 14, 32, 127, -7, Integer.MIN_VALUE, Integer.MAX_VALUE};
    private static final String SIGNS = "qqqrcp;;;=000112345901";
    private static final String[] DEEDS = {"q", "q", "q", "p", "r", "c"};

    private long seed;
    private final DriftPlans plans = new DriftPlans();
    private final Model model = new Model();
    private final int run;
    /** Some runs use few shapes, so that their plans are hit and pinned more often. */
    private final int shapes;

    private ModelTest(int run) {
        this.run = run;
        this.seed = run * 7919L + 17;
        this.shapes = run % 3 == 0 ? 31 : run % 3 == 1 ? 7 : 3;
    }

    public static void main(String[] args) {
        for (int run = 0; run < RUNS && CHECKS.allRight(); run++) {
            new ModelTest(run).calls();
        }
        everyFaultOfShortTexts();
        CHECKS.end();
    }

    private int pick(int bound) {
        seed = seed * 6364136223846793005L + 1442695040888963407L;
        return (int) Math.floorMod(seed >>> 33, (long) bound);
    }

    private int between(int least, int most) {
        return pick(40) == 0 ? wrong() : least + pick(most - least + 1);
    }

    private int wrong() {
        return WRONG[pick(WRONG.length)];
    }

    private int shape() {
        return pick(40) == 0 ? wrong() : 1 + pick(31) % shapes * (shapes == 3 ? 7 : 1);
    }

    private int anyRows() {
        int kind = pick(4);
        return kind == 0 ? between(1, 500) : kind == 1 ? between(5, 20) : kind == 2 ? between(1, 3) : between(490, 501);
    }

    private void same(String call, long got, long want) {
        CHECKS.due("run " + run + ": " + call, got, want);
    }

    private void calls() {
        for (int call = 0; call < CALLS; call++) {
            switch (pick(9)) {
                case 0:
                    changeTables();
                    break;
                case 1:
                case 2:
                    changePlans();
                    break;
                case 3:
                case 4:
                    call += write(CALLS - call - 2);
                    break;
                case 5:
                    goBack();
                    break;
                case 6:
                    lookAtTables();
                    break;
                case 7:
                    lookAtPlans();
                    break;
                default:
                    lookAhead();
                    break;
            }
        }
    }

    private void changeTables() {
        int table = between(0, 4);
        int other = between(0, 4);
        int number = anyRows();
        int part = pick(2) == 0 ? between(1, 100) : between(1, 5);
        switch (pick(5)) {
            case 0:
            case 1:
                same("rows " + table + " " + number, plans.rows(table, number), model.rows(table, number));
                break;
            case 2:
                same("part " + table + " " + other + " " + part, plans.part(table, other, part),
                        model.part(table, other, part));
                break;
            default:
                same("count " + table, plans.count(table), model.count(table));
                break;
        }
    }

    private void changePlans() {
        int shape = shape();
        int drift = pick(3) == 0 ? between(100, 150) : between(100, 1000);
        switch (pick(8)) {
            case 0:
            case 1:
                same("pin " + shape, plans.pin(shape), model.pin(shape));
                break;
            case 2:
                same("forget " + shape, plans.forget(shape), model.forget(shape));
                break;
            case 3:
                same("drift " + drift, plans.drift(drift), model.drift(drift));
                break;
            default:
                same("run " + shape, plans.run(shape), model.run(shape));
                break;
        }
    }

    /** Answers how many calls it made beside one. */
    private int write(int most) {
        int kind = pick(6);
        if (kind == 0) {
            same("clear", plans.clear(), model.clear());
            return 0;
        }
        if (kind == 1) {
            same("carryOut", plans.carryOut(), model.carryOut());
            return 0;
        }
        if (kind == 2) {
            int what = between(0, 1);
            same("why " + what, plans.why(what), model.why(what));
            return 0;
        }
        String text = kind == 3 ? anyText() : script();
        int calls = 0;
        for (int place = 0; place < text.length() && calls < most; place++) {
            int code = pick(200) == 0 ? wrong() : text.charAt(place);
            same("append " + code, plans.append(code), model.append(code));
            calls++;
        }
        same("fault after " + text, plans.fault(), model.fault());
        if (pick(4) != 0) {
            same("carryOut of " + text, plans.carryOut(), model.carryOut());
            calls++;
        }
        return calls;
    }

    private String anyText() {
        StringBuilder text = new StringBuilder();
        int length = 1 + pick(6);
        for (int place = 0; place < length; place++) {
            text.append(SIGNS.charAt(pick(SIGNS.length())));
        }
        return text.toString();
    }

    private String script() {
        StringBuilder text = new StringBuilder();
        int deeds = 1 + pick(6);
        for (int deed = 0; deed < deeds; deed++) {
            text.append(deed == 0 ? "" : ";").append(anyDeed());
        }
        return text.toString();
    }

    private String anyDeed() {
        String letter = DEEDS[pick(DEEDS.length)];
        if (letter.equals("r")) {
            return letter + pick(5) + "=" + (1 + pick(pick(2) == 0 ? 20 : 502));
        }
        if (letter.equals("c")) {
            return letter + pick(5);
        }
        StringBuilder deed = new StringBuilder(letter);
        int shape = 1 + pick(31) % shapes * (shapes == 3 ? 7 : 1);
        for (int table = 0; table < 5; table++) {
            if ((shape & 1 << table) != 0) {
                deed.append(table);
            }
        }
        return deed.toString();
    }

    private void goBack() {
        switch (pick(4)) {
            case 0:
                same("save", plans.save(), model.save());
                break;
            case 1:
                same("restore", plans.restore(), model.restore());
                break;
            default:
                same("undo", plans.undo(), model.undo());
                break;
        }
    }

    private void lookAtTables() {
        int table = between(0, 4);
        int other = between(0, 4);
        int shape = shape();
        boolean byRows = pick(2) == 0;
        int what = between(0, 4);
        int way = between(0, 1);
        switch (pick(5)) {
            case 0:
                same("table " + table + " " + what, plans.table(table, what), model.table(table, what));
                break;
            case 1:
                same("partOf", plans.partOf(table, other), model.partOf(table, other));
                break;
            case 2:
                same("size " + shape + " " + byRows, plans.size(shape, byRows), model.size(shape, byRows));
                break;
            case 3:
                same("least " + shape + " " + byRows, plans.least(shape, byRows, way),
                        model.least(shape, byRows, way));
                break;
            default:
                same("best " + shape + " " + byRows + " " + what, plans.best(shape, byRows, what),
                        model.best(shape, byRows, what));
                break;
        }
    }

    private void lookAtPlans() {
        int shape = shape();
        int what = between(0, 13);
        switch (pick(4)) {
            case 0:
                same("counted " + what, plans.counted(what), model.counted(what));
                break;
            case 1:
                CHECKS.dueDouble("run " + run + ": fitness", plans.fitness(), model.fitness());
                break;
            default:
                same("plan " + shape + " " + what, plans.plan(shape, what), model.plan(shape, what));
                break;
        }
    }

    private void lookAhead() {
        int shape = shape();
        int what = between(0, 1);
        switch (pick(3)) {
            case 0:
                same("ifCounted " + shape + " " + what, plans.ifCounted(shape, what), model.ifCounted(shape, what));
                break;
            case 1:
                same("ifRun " + shape, plans.ifRun(shape), model.ifRun(shape));
                break;
            default:
                same("leastDrift", plans.leastDrift(), model.leastDrift());
                break;
        }
    }

    /** Texts of up to three of the signs that matter, alone and behind some others. */
    private static void everyFaultOfShortTexts() {
        String signs = "qrcp;=01459:";
        for (String ahead : new String[] {"", "q0;", "r1=", "r1=5", "p1"}) {
            for (int number = 0; number < signs.length() * signs.length() * signs.length(); number++) {
                StringBuilder text = new StringBuilder(ahead);
                for (int rest = number; rest > 0; rest /= signs.length()) {
                    text.append(signs.charAt(rest % signs.length()));
                }
                DriftPlans plans = new DriftPlans();
                Model model = new Model();
                for (int place = 0; place < text.length(); place++) {
                    plans.append(text.charAt(place));
                    model.append(text.charAt(place));
                }
                CHECKS.due("fault of " + text, plans.fault(), model.fault());
            }
        }
    }
}
