/** Counts the answers that are not due, and ends a test with exit code 1 if there was one. */
final class Checks {
    private final String name;
    private String sentence = "";
    private int made = 0;
    private int wrong = 0;

    Checks(String name) {
        this.name = name;
    }

    /** Runs the test of one sentence of the document; wrong answers in it are told with the sentence. */
    void test(String sentence, Runnable body) {
        this.sentence = "[" + sentence + "] ";
        int before = made;
        try {
            body.run();
        } catch (RuntimeException thrown) {
            fail("a call threw " + thrown);
        }
        holds("the test checks something", made > before);
        this.sentence = "";
    }

    void due(String what, long got, long want) {
        made++;
        if (got != want) {
            fail(what + " answered " + got + ", due is " + want);
        }
    }

    void dueDouble(String what, double got, double want) {
        made++;
        if (got != want) {
            fail(what + " answered " + got + ", due is " + want);
        }
    }

    void dueText(String what, String got, String want) {
        made++;
        if (!got.equals(want)) {
            fail(what + " is " + got + ", due is " + want);
        }
    }

    void holds(String what, boolean right) {
        made++;
        if (!right) {
            fail(what);
        }
    }

    private void fail(String what) {
        wrong++;
        if (wrong <= 20) {
            System.out.println(name + ": " + sentence + what);
        }
    }

    boolean allRight() {
        return wrong == 0;
    }

    void end() {
        System.out.println(name + ": " + made + " checks, " + wrong + " wrong");
        if (wrong != 0) {
            System.exit(1);
        }
    }

    /** Puts a whole text on the pad, in place of the one that was. */
    static void write(DriftPlans plans, String text) {
        plans.clear();
        for (int place = 0; place < text.length(); place++) {
            plans.append(text.charAt(place));
        }
    }
}
