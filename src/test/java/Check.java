/** Compares answers with those that are due, and ends a test as .ci/run expects it. */
final class Check {
    private int asked = 0;
    private int wrong = 0;
    private String about = "";
    private String told = "";

    /** What the answers that follow are about; it is told once, before the first wrong one. */
    void about(String what) {
        about = what;
    }

    int asked() {
        return asked;
    }

    private void tell(String line) {
        wrong++;
        if (!about.equals(told)) {
            System.out.println(about);
            told = about;
        }
        System.out.println((about.isEmpty() ? "" : "    ") + line);
    }

    void due(String call, int got, int want) {
        asked++;
        if (got != want) {
            tell(call + " answered " + got + ", due is " + want);
        }
    }

    void holds(String what, boolean itDoes) {
        asked++;
        if (!itDoes) {
            tell("does not hold: " + what);
        }
    }

    /** What the plan gives, the packages 0 .. 4 as digits. */
    void plan(PackageDesk desk, String want) {
        StringBuilder got = new StringBuilder();
        for (int pack = 0; pack < 5; pack++) {
            got.append(desk.chosen(pack));
        }
        holds("the plan is " + want + " (it is " + got + ")", want.contentEquals(got));
    }

    /** What the lock gives, the packages 0 .. 4 as digits. */
    void lock(PackageDesk desk, String want) {
        StringBuilder got = new StringBuilder();
        for (int pack = 0; pack < 5; pack++) {
            got.append(desk.locked(pack));
        }
        holds("the lock is " + want + " (it is " + got + ")", want.contentEquals(got));
    }

    void noPlan(PackageDesk desk) {
        for (int pack = 0; pack < 5; pack++) {
            due("chosen(" + pack + ")", desk.chosen(pack), PackageDesk.NONE);
        }
    }

    void noLock(PackageDesk desk) {
        for (int pack = 0; pack < 5; pack++) {
            due("locked(" + pack + ")", desk.locked(pack), PackageDesk.NONE);
        }
    }

    /** What a kept generation gives, the packages 0 .. 4 as digits. */
    void generation(PackageDesk desk, int number, String want) {
        StringBuilder got = new StringBuilder();
        for (int pack = 0; pack < 5; pack++) {
            got.append(desk.version(number, pack));
        }
        holds("generation " + number + " is " + want + " (it is " + got + ")", want.contentEquals(got));
    }

    /** That of the generations -1 .. 20 just these are kept. */
    void kept(PackageDesk desk, int... want) {
        int next = 0;
        for (int number = -1; number <= 20; number++) {
            boolean due = next < want.length && want[next] == number;
            holds("generation " + number + (due ? " is kept" : " is not kept"), desk.version(number, 1) >= 0 == due);
            next += due ? 1 : 0;
        }
    }

    /** All steps, and that there is none before the first or after the last. */
    void steps(PackageDesk desk, int... want) {
        due("steps()", desk.steps(), want.length);
        for (int i = 0; i < want.length; i++) {
            due("step(" + i + ")", desk.step(i), want[i]);
        }
        due("step(" + want.length + ")", desk.step(want.length), PackageDesk.NONE);
        due("step(-1)", desk.step(-1), PackageDesk.NONE);
    }

    void finish() {
        System.out.println(asked - wrong + " of " + asked + " answers are as due");
        if (wrong != 0) {
            System.exit(1);
        }
    }
}
