/** Compares answers with those that are due, and ends a test as .ci/run expects it. */
final class Check {
    private int asked = 0;
    private int wrong = 0;

    void due(String call, int got, int want) {
        asked++;
        if (got != want) {
            wrong++;
            System.out.println(call + " answered " + got + ", due is " + want);
        }
    }

    void holds(String what, boolean itDoes) {
        asked++;
        if (!itDoes) {
            wrong++;
            System.out.println("does not hold: " + what);
        }
    }

    /** What the plan gives, the packages 0 .. 4 as digits. */
    void plan(PackageDesk desk, String want) {
        StringBuilder got = new StringBuilder();
        for (int pack = 0; pack < 5; pack++) {
            got.append(desk.chosen(pack));
        }
        holds("the plan is " + want + " (it is " + got + ")", want.contentEquals(got));
    }

    /** What a kept generation gives, the packages 0 .. 4 as digits. */
    void generation(PackageDesk desk, int number, String want) {
        StringBuilder got = new StringBuilder();
        for (int pack = 0; pack < 5; pack++) {
            got.append(desk.version(number, pack));
        }
        holds("generation " + number + " is " + want + " (it is " + got + ")", want.contentEquals(got));
    }

    /** All steps, and that there is none before the first or after the last. */
    void steps(PackageDesk desk, int... want) {
        due("steps()", desk.steps(), want.length);
        for (int i = 0; i < want.length; i++) {
            due("step(" + i + ")", desk.step(i), want[i]);
        }
        due("step(" + want.length + ")", desk.step(want.length), PackageDesk.NONE);
        due("step(-1)", desk.step(-1), PackageDesk.NONE);
    }

    void finish() {
        System.out.println(asked - wrong + " of " + asked + " answers are as due");
        if (wrong != 0) {
            System.exit(1);
        }
    }
}
