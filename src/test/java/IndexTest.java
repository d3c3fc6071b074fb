/** Promises 1 to 4: a new object, offer, withdraw, demand. */
public final class IndexTest {
    private static final int BAD = PackageDesk.BAD;
    private static final int EXISTS = PackageDesk.EXISTS;
    private static final int FULL = PackageDesk.FULL;
    private static final int NONE = PackageDesk.NONE;
    private static final int[] NOT_PACKS = {-1, 5, 10, Integer.MIN_VALUE, Integer.MAX_VALUE};
    private static final int[] NOT_VERSIONS = {0, 10, -1, Integer.MIN_VALUE, Integer.MAX_VALUE};
    private static final int[] NOT_RANGES =
        {0, 1, 9, 10, 20, 21, 98, 90, 100, 101, 109, 110, 119, 199, -11, -19, -1, Integer.MIN_VALUE, Integer.MAX_VALUE};

    public static void main(String[] args) {
        Check check = new Check();
        newObject(check);
        offerAnswers(check);
        offerRefuses(check);
        withdrawAnswers(check);
        withdrawTakesDemandsOut(check);
        demandAnswers(check);
        demandRefuses(check);
        demandOrderOfTests(check);
        check.finish();
    }

    private static void newObject(Check check) {
        PackageDesk desk = new PackageDesk();
        for (int pack = 0; pack < 5; pack++) {
            check.due("new: chosen", desk.chosen(pack), NONE);
            check.due("new: locked", desk.locked(pack), NONE);
            check.due("new: version(0, pack)", desk.version(0, pack), 0);
            check.due("new: version(1, pack)", desk.version(1, pack), NONE);
            check.due("new: possible none", desk.possible(pack, 0), 1);
            for (int version = 1; version <= 9; version++) {
                check.due("new: possible", desk.possible(pack, version), 0);
                check.due("new: withdraw", desk.withdraw(pack, version), NONE);
            }
        }
        check.due("new: current", desk.current(), 0);
        check.due("new: unwish(0)", desk.unwish(0), BAD);
        check.due("new: solutions", desk.solutions(), 1);
        check.due("new: blame", desk.blame(), NONE);
        check.due("new: lock", desk.lock(), NONE);
        check.due("new: steps", desk.steps(), NONE);
        check.due("new: step(0)", desk.step(0), NONE);
        check.due("new: apply(-1)", desk.apply(-1), NONE);
        check.due("new: collect(1)", desk.collect(1), 0);
        check.due("new: rollback(0)", desk.rollback(0), 0);
        check.due("new: solve", desk.solve(), 0);
        check.plan(desk, "00000");
        check.due("new: first wish", desk.wish(true, 0, 19), 0);
    }

    private static void offerAnswers(Check check) {
        PackageDesk desk = new PackageDesk();
        for (int pack = 0; pack < 5; pack++) {
            check.due("offer 1", desk.offer(pack, 9, 0), 1);
            check.due("offer 2", desk.offer(pack, 1, 0), 2);
            check.due("offer 3", desk.offer(pack, 5, 0), 3);
            check.due("offer 4", desk.offer(pack, 2, 0), 4);
            check.due("a fifth version", desk.offer(pack, 3, 0), FULL);
            check.due("it was not added", desk.possible(pack, 3), 0);
            check.due("the same version when full", desk.offer(pack, 5, 1), EXISTS);
        }
        check.due("all choices are solutions", desk.solutions(), 3125);
    }

    private static void offerRefuses(Check check) {
        PackageDesk desk = new PackageDesk();
        for (int pack : NOT_PACKS) {
            check.due("offer(" + pack + ", 1, 0)", desk.offer(pack, 1, 0), BAD);
        }
        for (int version : NOT_VERSIONS) {
            check.due("offer(0, " + version + ", 0)", desk.offer(0, version, 0), BAD);
        }
        for (int paths : new int[] {-1, 256, Integer.MIN_VALUE, Integer.MAX_VALUE}) {
            check.due("offer(0, 1, " + paths + ")", desk.offer(0, 1, paths), BAD);
        }
        check.due("nothing was added", desk.solutions(), 1);
        check.due("paths 255", desk.offer(0, 1, 255), 1);
        check.due("paths 0", desk.offer(0, 2, 0), 2);
        check.due("bad paths before exists", desk.offer(0, 1, 256), BAD);
        check.due("exists", desk.offer(0, 1, 0), EXISTS);
        desk.offer(1, 1, 128);
        check.due("the paths stay as first offered", desk.solutions(), 5);
        desk.offer(0, 3, 0);
        desk.offer(0, 4, 0);
        check.due("bad paths before full", desk.offer(0, 5, -1), BAD);
    }

    private static void withdrawAnswers(Check check) {
        PackageDesk desk = new PackageDesk();
        for (int version = 1; version <= 4; version++) {
            desk.offer(4, version, 0);
        }
        check.due("withdraw", desk.withdraw(4, 2), 3);
        check.due("withdraw again", desk.withdraw(4, 2), NONE);
        check.due("the version is out", desk.possible(4, 2), 0);
        check.due("another one is in", desk.possible(4, 3), 1);
        check.due("one of another package", desk.withdraw(3, 1), NONE);
        check.due("room again", desk.offer(4, 9, 0), 4);
        check.due("full again", desk.offer(4, 8, 0), FULL);
        check.due("withdraw 9", desk.withdraw(4, 9), 3);
        check.due("withdraw 1", desk.withdraw(4, 1), 2);
        check.due("withdraw 3", desk.withdraw(4, 3), 1);
        check.due("withdraw 4", desk.withdraw(4, 4), 0);
        check.due("nothing is left", desk.solutions(), 1);
        for (int pack : NOT_PACKS) {
            check.due("withdraw(" + pack + ", 1)", desk.withdraw(pack, 1), BAD);
        }
        for (int version : NOT_VERSIONS) {
            check.due("withdraw(0, " + version + ")", desk.withdraw(0, version), BAD);
        }
    }

    private static void withdrawTakesDemandsOut(Check check) {
        PackageDesk desk = new PackageDesk();
        desk.offer(0, 1, 3);
        desk.offer(1, 1, 1);
        desk.demand(true, 1, 2, 19);
        desk.demand(false, 1, 1, 19);
        check.due("the need can't be met", desk.possible(0, 1), 0);
        check.due("withdraw", desk.withdraw(0, 1), 0);
        check.due("offer again", desk.offer(0, 1, 2), 1);
        check.due("without the need", desk.possible(0, 1), 1);
        check.due("with the new paths, without the clash", desk.solutions(), 4);
        check.due("the demands count anew", desk.demand(false, 1, 4, 11), 1);
    }

    private static void demandAnswers(Check check) {
        PackageDesk desk = new PackageDesk();
        desk.offer(0, 1, 0);
        desk.offer(4, 9, 0);
        check.due("first", desk.demand(true, 49, 0, 11), 1);
        check.due("the same again", desk.demand(true, 49, 0, 11), 2);
        check.due("third", desk.demand(false, 49, 3, 99), 3);
        check.due("fourth", desk.demand(true, 49, 2, 19), FULL);
        check.due("the fourth was not added", desk.possible(4, 9), 1);
        check.due("the first holds", desk.solutions(), 3);
        check.due("another version has none yet", desk.demand(false, 1, 4, 12), 1);
        check.due("a clash out of its range", desk.solutions(), 3);
        check.due("a clash", desk.demand(false, 1, 4, 89), 2);
        check.due("a clash in its range", desk.solutions(), 2);
    }

    private static void demandRefuses(Check check) {
        PackageDesk desk = new PackageDesk();
        desk.offer(0, 1, 0);
        desk.offer(1, 1, 0);
        for (int of : new int[] {-1, -11, 0, 10, 20, 40, 50, 51, 59, 99, 101, Integer.MIN_VALUE, Integer.MAX_VALUE}) {
            check.due("demand of " + of, desk.demand(true, of, 3, 19), BAD);
        }
        for (int other : NOT_PACKS) {
            check.due("demand on " + other, desk.demand(true, 1, other, 19), BAD);
        }
        for (int range : NOT_RANGES) {
            check.due("demand in " + range, desk.demand(false, 1, 3, range), BAD);
        }
        check.due("on itself", desk.demand(true, 1, 0, 19), BAD);
        check.due("on itself", desk.demand(false, 11, 1, 19), BAD);
        check.due("of a version not there", desk.demand(true, 2, 3, 19), NONE);
        check.due("of a package not there", desk.demand(true, 49, 3, 19), NONE);
        check.due("nothing was added", desk.solutions(), 4);
        for (int range : new int[] {11, 19, 99, 55, 12, 89}) {
            desk.withdraw(0, 1);
            desk.offer(0, 1, 0);
            check.due("demand in " + range, desk.demand(false, 1, 3, range), 1);
        }
    }

    private static void demandOrderOfTests(Check check) {
        PackageDesk desk = new PackageDesk();
        desk.offer(2, 2, 0);
        for (int i = 0; i < 3; i++) {
            desk.demand(false, 22, 0, 11);
        }
        check.due("bad before full", desk.demand(false, 22, 2, 11), BAD);
        check.due("bad range before full", desk.demand(false, 22, 0, 10), BAD);
        check.due("bad other before none", desk.demand(false, 21, 5, 11), BAD);
        check.due("itself before none", desk.demand(false, 21, 2, 11), BAD);
        check.due("bad range before none", desk.demand(false, 21, 0, 21), BAD);
        check.due("none", desk.demand(false, 21, 0, 11), NONE);
        check.due("full", desk.demand(false, 22, 0, 11), FULL);
    }
}
