/** The boundary cases that the document names under "Texts" and in promises 9 to 13: a test for each sentence. */
public final class ScriptsTest {
    private static final Checks CHECKS = new Checks("ScriptsTest");
    private static final int NONE = DriftPlans.NOT_FOUND;
    private static final int FULL = 60;

    public static void main(String[] args) {
        thePad();
        deeds();
        queries();
        rowsDeeds();
        otherDeeds();
        faults();
        carryingOut();
        stops();
        CHECKS.end();
    }

    private static void fault(String text, int due) {
        CHECKS.due("fault of '" + text + "'", Scenes.faultOf(text), due);
    }

    // ---- the pad

    private static void thePad() {
        CHECKS.test("a pad, initially empty", ScriptsTest::emptyAtFirst);
        CHECKS.test("a pad of at most 60 characters", ScriptsTest::atMost60);
        CHECKS.test("code: the character code, 33 to 126", ScriptsTest::codes33To126);
        CHECKS.test("LIMIT_REACHED if it has 60 characters: not if it has 59", ScriptsTest::limitIs60);
        CHECKS.test("Empties the pad. Returns the length that it had: an empty one", ScriptsTest::clearEmpty);
        CHECKS.test("Empties the pad. Returns the length that it had: a full one", ScriptsTest::clearFull);
    }

    private static void emptyAtFirst() {
        DriftPlans plans = new DriftPlans();
        CHECKS.due("length", plans.counted(12), 0);
        CHECKS.due("clear", plans.clear(), 0);
        CHECKS.due("first append", plans.append('x'), 1);
    }

    private static void atMost60() {
        DriftPlans plans = new DriftPlans();
        for (int length = 1; length <= 80; length++) {
            CHECKS.due("append", plans.append('q'), length <= FULL ? length : DriftPlans.LIMIT_REACHED);
            CHECKS.due("length", plans.counted(12), Math.min(length, FULL));
        }
    }

    private static void codes33To126() {
        DriftPlans plans = new DriftPlans();
        CHECKS.due("32", plans.append(32), DriftPlans.INVALID_ARGUMENT);
        CHECKS.due("127", plans.append(127), DriftPlans.INVALID_ARGUMENT);
        CHECKS.due("33", plans.append(33), 1);
        CHECKS.due("126", plans.append(126), 2);
        CHECKS.due("'q' and 65536", plans.append('q' + 65536), DriftPlans.INVALID_ARGUMENT);
        CHECKS.due("'q' and 256", plans.append('q' + 256), DriftPlans.INVALID_ARGUMENT);
        CHECKS.due("length", plans.counted(12), 2);
    }

    private static void limitIs60() {
        DriftPlans plans = Scenes.withPad("q".repeat(59));
        CHECKS.due("the 60th", plans.append('0'), FULL);
        CHECKS.due("the 61st", plans.append('0'), DriftPlans.LIMIT_REACHED);
        plans.clear();
        CHECKS.due("when it is emptied", plans.append('q'), 1);
        DriftPlans carried = Scenes.withPad("q01;" + "q0;".repeat(18) + "q0");
        CHECKS.due("full", carried.append('1'), DriftPlans.LIMIT_REACHED);
        CHECKS.due("carried out", carried.carryOut(), 20);
        CHECKS.due("when it is carried out", carried.append('q'), 1);
    }

    private static void clearEmpty() {
        DriftPlans plans = new DriftPlans();
        CHECKS.due("never written", plans.clear(), 0);
        plans.append('q');
        plans.clear();
        CHECKS.due("cleared before", plans.clear(), 0);
        Scenes.carryOut(plans, "c0");
        CHECKS.due("carried out before", plans.clear(), 0);
    }

    private static void clearFull() {
        DriftPlans plans = Scenes.withFullPad();
        CHECKS.due("a full one", plans.clear(), FULL);
        CHECKS.due("length", plans.counted(12), 0);
        CHECKS.due("its fault then", plans.fault(), 0);
    }

    // ---- deeds

    private static void deeds() {
        CHECKS.test("one or more deeds: none", () -> fault("", 0));
        CHECKS.test("one or more deeds: one", () -> fault("q0", NONE));
        CHECKS.test("one or more deeds: as many as the pad holds", () -> fault("q01" + ";c0".repeat(19), NONE));
        CHECKS.test("with \";\" between two: none between", () -> fault("q0c1", 2));
        CHECKS.test("with \";\" between two: another sign", () -> fault("q0,c1", 2));
        CHECKS.test("with \";\" between two: two of them", () -> fault("q0;;c1", 3));
        CHECKS.test("with \";\" between two: one ahead", () -> fault(";q0", 0));
        CHECKS.test("with \";\" between two: one behind", () -> fault("q0;", 3));
        CHECKS.test("with \";\" between two: one alone", () -> fault(";", 0));
        CHECKS.test("a deed has one of four letters", ScriptsTest::onlyFourLetters);
    }

    private static void onlyFourLetters() {
        for (char sign = 33; sign <= 126; sign++) {
            boolean begins = sign == 'q' || sign == 'r' || sign == 'c' || sign == 'p';
            fault(String.valueOf(sign), begins ? 1 : 0);
            fault("c0;" + sign, begins ? 4 : 3);
        }
    }

    // ---- queries

    private static void queries() {
        for (String letter : new String[] {"q", "p"}) {
            CHECKS.test(letter + " and one or more digits: none", () -> noDigit(letter));
            CHECKS.test(letter + " and one or more digits: one", () -> eachDigit(letter));
            CHECKS.test(letter + " and one or more digits: all five", () -> fault(letter + "01234", NONE));
            CHECKS.test(letter + " and one or more digits: six", () -> sixDigits(letter));
            CHECKS.test(letter + ", digits 0 to 4", () -> digits0To4(letter));
            CHECKS.test(letter + ", digits rising: the same twice", () -> sameTwice(letter));
            CHECKS.test(letter + ", digits rising: falling", () -> falling(letter));
            CHECKS.test(letter + ", digits rising: with gaps", () -> gaps(letter));
        }
    }

    private static void noDigit(String letter) {
        fault(letter, 1);
        fault(letter + ";", 1);
        fault(letter + letter, 1);
        fault("c0;" + letter, 4);
    }

    private static void eachDigit(String letter) {
        for (int digit = 0; digit <= 4; digit++) {
            fault(letter + digit, NONE);
        }
    }

    private static void sixDigits(String letter) {
        for (int digit = 0; digit <= 9; digit++) {
            fault(letter + "01234" + digit, 6);
        }
    }

    private static void digits0To4(String letter) {
        fault(letter + "5", 1);
        fault(letter + "9", 1);
        fault(letter + "05", 2);
        fault(letter + "/", 1);
        fault(letter + "0/", 2);
        fault(letter + "0:", 2);
    }

    private static void sameTwice(String letter) {
        for (int digit = 0; digit <= 4; digit++) {
            fault(letter + digit + digit, 2);
        }
        fault(letter + "0122", 4);
    }

    private static void falling(String letter) {
        fault(letter + "10", 2);
        fault(letter + "43", 2);
        fault(letter + "0243", 4);
        fault(letter + "020", 3);
    }

    private static void gaps(String letter) {
        fault(letter + "04", NONE);
        fault(letter + "024", NONE);
        fault(letter + "13", NONE);
    }

    // ---- rows

    private static void rowsDeeds() {
        CHECKS.test("r, a table: 0 to 4", ScriptsTest::rowsTable);
        CHECKS.test("r, a table, \"=\"", ScriptsTest::rowsSign);
        CHECKS.test("a number 1 to 500: the least", ScriptsTest::leastNumber);
        CHECKS.test("a number 1 to 500: the greatest", ScriptsTest::greatestNumber);
        CHECKS.test("a number 1 to 500: each of them", ScriptsTest::eachNumber);
        CHECKS.test("a number 1 to 500: none", ScriptsTest::noNumber);
        CHECKS.test("a number 1 to 500: 0", () -> fault("r0=0", 3));
        CHECKS.test("a number 1 to 500: 501 and above", ScriptsTest::numbersAbove);
        CHECKS.test("Numbers have no needless 0 ahead", ScriptsTest::needlessZero);
        CHECKS.test("a number: of digits alone", ScriptsTest::signsBesideDigits);
        CHECKS.test("a number: each one by itself", ScriptsTest::manyNumbers);
    }

    private static void rowsTable() {
        for (int table = 0; table <= 4; table++) {
            fault("r" + table + "=9", NONE);
        }
        fault("r5=9", 1);
        fault("r", 1);
        fault("r=9", 1);
        fault("r01=9", 2);
    }

    private static void rowsSign() {
        fault("r0", 2);
        fault("r09", 2);
        fault("r0==9", 3);
        fault("r0;", 2);
    }

    private static void leastNumber() {
        fault("r0=1", NONE);
        DriftPlans plans = new DriftPlans();
        CHECKS.due("carried out", Scenes.carryOut(plans, "r0=1"), 1);
        CHECKS.due("rows", plans.table(0, 0), 1);
    }

    private static void greatestNumber() {
        fault("r4=500", NONE);
        DriftPlans plans = new DriftPlans();
        CHECKS.due("carried out", Scenes.carryOut(plans, "r4=500"), 1);
        CHECKS.due("rows", plans.table(4, 0), 500);
    }

    private static void eachNumber() {
        for (int number = 1; number <= 500; number++) {
            DriftPlans plans = new DriftPlans();
            CHECKS.due("carried out", Scenes.carryOut(plans, "r2=" + number + ";c2"), 2);
            CHECKS.due("rows", plans.table(2, 0), number);
            CHECKS.due("guess", plans.table(2, 1), number);
        }
    }

    private static void noNumber() {
        fault("r0=", 3);
        fault("r0=;c0", 3);
        fault("r0=x", 3);
    }

    /** The last digit is wrong, for the ones ahead of it may begin a number up to 500. */
    private static void numbersAbove() {
        for (int number = 501; number <= 999; number++) {
            fault("r0=" + number, 5);
        }
        fault("r0=1000", 6);
        fault("r0=5000", 6);
        fault("r0=5001", 6);
        fault("r0=4999", 6);
        fault("r0=" + "9".repeat(30), 5);
        fault("r0=" + "1".repeat(30), 6);
    }

    private static void needlessZero() {
        fault("r0=01", 3);
        fault("r0=00", 3);
        fault("r0=0500", 3);
        fault("r0=10", NONE);
        fault("r0=100", NONE);
    }

    /** The signs just below 0 and just above 9. */
    private static void signsBesideDigits() {
        for (String ahead : new String[] {"r0=", "r0=1", "r0=10", "r0=100"}) {
            fault(ahead + "/", ahead.length());
            fault(ahead + ":", ahead.length());
        }
    }

    private static void manyNumbers() {
        DriftPlans plans = new DriftPlans();
        int[] rows = {500, 1, 499, 10, 500};
        CHECKS.due("deeds", Scenes.carryOut(plans, "r0=500;r1=1;r2=499;r3=10;r4=500"), 5);
        for (int table = 0; table < 5; table++) {
            CHECKS.due("rows of " + table, plans.table(table, 0), rows[table]);
        }
        fault("r0=50;r0=10;r0=500;r0=501", 24);
    }

    // ---- other deeds

    private static void otherDeeds() {
        CHECKS.test("c and a table: 0 to 4", ScriptsTest::countsTable);
        CHECKS.test("c and a table: none", ScriptsTest::countsNoTable);
        CHECKS.test("c and a table: two", ScriptsTest::countsTwoTables);
    }

    private static void countsTable() {
        for (int table = 0; table <= 4; table++) {
            fault("c" + table, NONE);
        }
        fault("c5", 1);
        fault("c/", 1);
    }

    private static void countsNoTable() {
        fault("c", 1);
        fault("c;c0", 1);
        fault("c=", 1);
    }

    private static void countsTwoTables() {
        fault("c01", 2);
        fault("c0=1", 2);
    }

    // ---- faults

    private static void faults() {
        CHECKS.test("the position, from 0, of the first character that is wrong: the first", () -> fault("x", 0));
        CHECKS.test("the first character that is wrong: not a later one", () -> fault("q0;r1=y;z", 6));
        CHECKS.test("the first character that is wrong: the 60th", ScriptsTest::lastIsWrong);
        CHECKS.test("no script, of any length, begins with", ScriptsTest::scriptsOfAnyLength);
        CHECKS.test("if there is none, and the pad is not complete: its length", ScriptsTest::incomplete);
        CHECKS.test("(also if it is empty)", ScriptsTest::emptyAgain);
        CHECKS.test("NOT_FOUND if it has none", ScriptsTest::none);
    }

    private static void lastIsWrong() {
        fault("c0;".repeat(19) + "c01", 59);
        fault("c0;".repeat(19) + "c0x", 59);
        fault("c0;".repeat(19) + "cx0", 58);
    }

    /** A full pad can not go on, but scripts can: what is wrong is its end, not a character of it. */
    private static void scriptsOfAnyLength() {
        fault("c0;".repeat(20), FULL);
        fault("c0;".repeat(18) + "q01;r0", FULL);
        fault("c0;".repeat(18) + "q0;r0=", FULL);
        fault("c0;".repeat(19) + "p0;", FULL);
    }

    private static void incomplete() {
        String script = "q0;r1=5;c2;p34";
        for (int length = 0; length <= script.length(); length++) {
            String text = script.substring(0, length);
            boolean whole = text.matches(".*(q0|=5|c2|p3|p34)");
            fault(text, whole ? NONE : length);
        }
    }

    private static void emptyAgain() {
        DriftPlans plans = Scenes.withPad("q0");
        plans.clear();
        CHECKS.due("emptied", plans.fault(), 0);
        Scenes.carryOut(plans, "q0");
        CHECKS.due("carried out", plans.fault(), 0);
    }

    private static void none() {
        fault("q0;r1=5;c2;p34", NONE);
        fault("q01" + ";c0".repeat(19), NONE);
    }

    // ---- carrying out

    private static void carryingOut() {
        CHECKS.test("NOT_POSSIBLE if the pad has a fault: at its end", () -> notCarriedOut("q0;r1="));
        CHECKS.test("NOT_POSSIBLE if the pad has a fault: at its beginning", () -> notCarriedOut("xq0"));
        CHECKS.test("NOT_POSSIBLE if the pad has a fault: within", () -> notCarriedOut("q0;r1=0;q1"));
        CHECKS.test("NOT_POSSIBLE if the pad has a fault: if it is empty", () -> notCarriedOut(""));
        CHECKS.test("NOT_POSSIBLE if the pad has a fault: if it is full", () -> notCarriedOut("c0;".repeat(20)));
        CHECKS.test("up to the first one that returns an error: the first", ScriptsTest::firstStops);
        CHECKS.test("up to the first one that returns an error: one between", ScriptsTest::oneBetweenStops);
        CHECKS.test("up to the first one that returns an error: the last", ScriptsTest::lastStops);
        CHECKS.test("up to the first one that returns an error: none does", ScriptsTest::allAreDone);
        CHECKS.test("and empties the pad", ScriptsTest::emptiesThePad);
        CHECKS.test("\"p\" pins a plan, and leaves a pinned one so", ScriptsTest::pinnedStaysPinned);
        CHECKS.test("\"p\" leaves a pinned one so: though it drifted", ScriptsTest::driftedStaysPinned);
        CHECKS.test("This is one change", ScriptsTest::oneChange);
        CHECKS.test("also if none is done", ScriptsTest::oneChangeOfNothing);
        CHECKS.test("carried out as the methods do: in a full pad", ScriptsTest::fullPadIsCarriedOut);
    }

    private static void notCarriedOut(String text) {
        DriftPlans plans = Scenes.withPad(text);
        CHECKS.due("carryOut", plans.carryOut(), DriftPlans.NOT_POSSIBLE);
        CHECKS.due("length", plans.counted(12), text.length());
        CHECKS.due("states", plans.counted(13), 0);
        CHECKS.due("misses", plans.counted(4), 0);
    }

    private static void firstStops() {
        DriftPlans plans = new DriftPlans();
        CHECKS.due("none is done", Scenes.carryOut(plans, "p0;q0;r1=5"), 0);
        CHECKS.due("no query", plans.counted(4), 0);
        CHECKS.due("no rows", plans.table(1, 0), 10);
    }

    private static void oneBetweenStops() {
        DriftPlans plans = new DriftPlans();
        CHECKS.due("one is done", Scenes.carryOut(plans, "q0;p01;p0;c0"), 1);
        CHECKS.due("the query", plans.plan(1, 7), 1);
        CHECKS.due("no pin", plans.plan(1, 8), 0);
    }

    private static void lastStops() {
        DriftPlans plans = new DriftPlans();
        CHECKS.due("two are done", Scenes.carryOut(plans, "q0;p0;p4"), 2);
        CHECKS.due("pinned", plans.plan(1, 8), 1);
    }

    private static void allAreDone() {
        DriftPlans plans = new DriftPlans();
        CHECKS.due("all are done", Scenes.carryOut(plans, "q0;p0;c4"), 3);
        CHECKS.due("one is done", Scenes.carryOut(plans, "c4"), 1);
    }

    private static void emptiesThePad() {
        DriftPlans plans = new DriftPlans();
        for (String text : new String[] {"q0", "q0;p1;q2", "p3"}) {
            Scenes.carryOut(plans, text);
            CHECKS.due("after " + text, plans.counted(12), 0);
        }
    }

    private static void pinnedStaysPinned() {
        DriftPlans plans = new DriftPlans();
        CHECKS.due("pinned twice at once", Scenes.carryOut(plans, "q0;p0;p0"), 3);
        CHECKS.due("pinned", plans.plan(1, 8), 1);
        Scenes.carryOut(plans, "p0");
        CHECKS.due("pinned once more", plans.plan(1, 8), 1);
        CHECKS.due("pinned ones", plans.counted(1), 1);
    }

    private static void driftedStaysPinned() {
        DriftPlans plans = new DriftPlans();
        CHECKS.due("deeds", Scenes.carryOut(plans, "q0;p0;r0=99;c0;p0"), 5);
        CHECKS.due("pinned", plans.plan(1, 8), 1);
        CHECKS.due("drifted", plans.plan(1, 10), 1);
    }

    private static void oneChange() {
        DriftPlans plans = new DriftPlans();
        Scenes.carryOut(plans, "q0;q1;q2;q3;q4;r0=9");
        CHECKS.due("states", plans.counted(13), 1);
        CHECKS.due("undo", plans.undo(), 0);
        CHECKS.due("misses", plans.counted(4), 0);
        CHECKS.due("rows", plans.table(0, 0), 10);
    }

    private static void oneChangeOfNothing() {
        DriftPlans plans = Scenes.withRows(20);
        CHECKS.due("none is done", Scenes.carryOut(plans, "p0"), 0);
        CHECKS.due("states", plans.counted(13), 2);
        CHECKS.due("undo", plans.undo(), 1);
        CHECKS.due("rows", plans.table(0, 0), 20);
    }

    private static void fullPadIsCarriedOut() {
        DriftPlans plans = new DriftPlans();
        CHECKS.due("deeds", Scenes.carryOut(plans, "q012" + ";q1".repeat(17) + ";q234"), 19);
        CHECKS.due("hits", plans.counted(3), 16);
        CHECKS.due("misses", plans.counted(4), 3);
        CHECKS.due("the last one", plans.plan(0b11100, 11), 2);
    }

    // ---- stops

    private static void stops() {
        CHECKS.test("NOT_FOUND if there was no such call: none at all", () -> nothingToTell(new DriftPlans()));
        CHECKS.test("NOT_FOUND if there was no such call: only one with an error", ScriptsTest::onlyAnError);
        CHECKS.test("or all its deeds were done", ScriptsTest::allDone);
        CHECKS.test("its number among the deeds, from 0: the first", () -> stop("p0;q0", 0, 0));
        CHECKS.test("its number among the deeds, from 0: the last", () -> stop("q0;p0;p1", 2, 6));
        CHECKS.test("the position of its letter in the pad: behind long deeds", () -> stop("r0=500;q01234;p1", 2, 14));
        CHECKS.test("the position of its letter in the pad: at the end of a full pad", ScriptsTest::stopAtTheEnd);
        CHECKS.test("the latest call of carryOut() that returned no error", ScriptsTest::latestWithoutError);
        CHECKS.test("This is not a part of what is undone", ScriptsTest::notUndone);
        CHECKS.test("or restored", ScriptsTest::notRestored);
        CHECKS.test("what: 0 or 1", ScriptsTest::only0Or1);
    }

    private static void nothingToTell(DriftPlans plans) {
        CHECKS.due("number", plans.why(0), NONE);
        CHECKS.due("position", plans.why(1), NONE);
    }

    private static void onlyAnError() {
        DriftPlans plans = new DriftPlans();
        CHECKS.due("an error", Scenes.carryOut(plans, "p0;"), DriftPlans.NOT_POSSIBLE);
        nothingToTell(plans);
    }

    private static void allDone() {
        DriftPlans plans = new DriftPlans();
        Scenes.carryOut(plans, "q0;p0");
        nothingToTell(plans);
        Scenes.carryOut(plans, "c0;p1");
        CHECKS.due("a stop", plans.why(0), 1);
        Scenes.carryOut(plans, "c0;p0");
        nothingToTell(plans);
    }

    private static void stop(String text, int number, int position) {
        DriftPlans plans = new DriftPlans();
        CHECKS.due("deeds done", Scenes.carryOut(plans, text), number);
        CHECKS.due("number", plans.why(0), number);
        CHECKS.due("position", plans.why(1), position);
    }

    private static void stopAtTheEnd() {
        stop("c0;".repeat(19) + "p0", 19, 57);
        stop("c0;".repeat(18) + "r0=1;p", DriftPlans.NOT_POSSIBLE, NONE, NONE);
        stop("r0=1;".repeat(2) + "c0;".repeat(16) + "p0", 18, 58);
    }

    private static void stop(String text, int answer, int number, int position) {
        DriftPlans plans = new DriftPlans();
        CHECKS.due("carryOut", Scenes.carryOut(plans, text), answer);
        CHECKS.due("number", plans.why(0), number);
        CHECKS.due("position", plans.why(1), position);
    }

    private static void latestWithoutError() {
        DriftPlans plans = new DriftPlans();
        Scenes.carryOut(plans, "c0;p1");
        CHECKS.due("an error", Scenes.carryOut(plans, "p0;x"), DriftPlans.NOT_POSSIBLE);
        CHECKS.due("number of before", plans.why(0), 1);
        CHECKS.due("position of before", plans.why(1), 3);
        Scenes.carryOut(plans, "r0=50;p1");
        CHECKS.due("position of the latest", plans.why(1), 6);
    }

    private static void notUndone() {
        DriftPlans plans = new DriftPlans();
        Scenes.carryOut(plans, "c0;p1");
        plans.undo();
        CHECKS.due("number", plans.why(0), 1);
        CHECKS.due("position", plans.why(1), 3);
    }

    private static void notRestored() {
        DriftPlans plans = new DriftPlans();
        plans.save();
        Scenes.carryOut(plans, "c0;p1");
        plans.restore();
        CHECKS.due("number", plans.why(0), 1);
        plans.save();
        Scenes.carryOut(plans, "c0");
        plans.restore();
        nothingToTell(plans);
    }

    private static void only0Or1() {
        DriftPlans plans = new DriftPlans();
        Scenes.carryOut(plans, "p0");
        CHECKS.due("0", plans.why(0), 0);
        CHECKS.due("1", plans.why(1), 0);
        CHECKS.due("-1", plans.why(-1), DriftPlans.INVALID_ARGUMENT);
        CHECKS.due("2", plans.why(2), DriftPlans.INVALID_ARGUMENT);
    }
}
