/** Promises 17 to 21: apply, current, version, rollback, collect. */
public final class GenerationTest {
    private static final int BAD = PackageDesk.BAD;
    private static final int NONE = PackageDesk.NONE;

    public static void main(String[] args) {
        Check check = new Check();
        applyAnswers(check);
        applyCrashes(check);
        applyDropsTheLeast(check);
        applySparesTheCurrentOne(check);
        versionRefuses(check);
        rollbackAnswers(check);
        numbersGoOn(check);
        collectAnswers(check);
        collectSparesTheCurrentOne(check);
        collectRefuses(check);
        allPackagesAreKept(check);
        check.finish();
    }

    private static void applyAnswers(Check check) {
        PackageDesk desk = new PackageDesk();
        check.due("no plan", desk.apply(-1), NONE);
        check.due("no plan", desk.apply(9), NONE);
        desk.solve();
        check.due("no steps", desk.apply(-1), 0);
        check.due("no steps, no crash", desk.apply(0), 0);
        desk.offer(1, 2, 0);
        desk.offer(4, 9, 0);
        desk.wish(true, 1, 22);
        desk.wish(true, 4, 99);
        desk.solve();
        check.due("apply", desk.apply(-1), 1);
        check.due("current", desk.current(), 1);
        check.generation(desk, 1, "02009");
        check.generation(desk, 0, "00000");
        check.plan(desk, "02009");
        check.due("again", desk.apply(-1), 1);
        check.due("again, with a stop", desk.apply(0), 1);
        check.kept(desk, 0, 1);
        desk.withdraw(1, 2);
        check.due("no solution", desk.solve(), NONE);
        check.due("no plan", desk.apply(-1), NONE);
        check.generation(desk, 1, "02009");
    }

    private static void applyCrashes(Check check) {
        PackageDesk desk = new PackageDesk();
        desk.offer(1, 2, 0);
        desk.offer(4, 9, 0);
        desk.wish(true, 1, 22);
        desk.wish(true, 4, 99);
        desk.solve();
        check.due("before the first", desk.apply(0), NONE);
        check.due("before the second", desk.apply(1), NONE);
        check.due("current", desk.current(), 0);
        check.kept(desk, 0);
        check.steps(desk, 212, 249);
        check.due("after the last is no crash", desk.apply(2), 1);
        check.due("current", desk.current(), 1);
        desk.unwish(1);
        desk.unwish(0);
        Desks.planFor(desk, 5);
        check.steps(desk, 149, 112, 205);
        check.due("between taking away and putting", desk.apply(2), NONE);
        check.generation(desk, 1, "02009");
        check.due("a crash gives no number", desk.apply(Integer.MAX_VALUE), 2);
        Desks.planFor(desk, 6);
        check.due("the least int", desk.apply(Integer.MIN_VALUE), 3);
    }

    private static void applyDropsTheLeast(Check check) {
        PackageDesk desk = Desks.keeping(5);
        check.kept(desk, 0, 1, 2, 3, 4, 5);
        Desks.planFor(desk, 6);
        check.due("a crash drops none", desk.apply(0), NONE);
        check.kept(desk, 0, 1, 2, 3, 4, 5);
        check.due("apply", desk.apply(2), 6);
        check.kept(desk, 1, 2, 3, 4, 5, 6);
        check.generation(desk, 6, "60000");
        check.generation(desk, 1, "10000");
        check.due("no steps drops none", desk.apply(-1), 6);
        check.kept(desk, 1, 2, 3, 4, 5, 6);
        Desks.planFor(desk, 7);
        check.due("apply", desk.apply(-1), 7);
        check.kept(desk, 2, 3, 4, 5, 6, 7);
    }

    private static void applySparesTheCurrentOne(Check check) {
        PackageDesk desk = Desks.keeping(5);
        desk.rollback(0);
        Desks.planFor(desk, 6);
        check.due("apply", desk.apply(-1), 6);
        check.kept(desk, 0, 2, 3, 4, 5, 6);
        check.due("current", desk.current(), 6);
        Desks.planFor(desk, 7);
        check.due("0 is not current any more", desk.apply(-1), 7);
        check.kept(desk, 2, 3, 4, 5, 6, 7);
        desk.rollback(4);
        Desks.planFor(desk, 8);
        check.due("apply", desk.apply(-1), 8);
        check.kept(desk, 3, 4, 5, 6, 7, 8);
        check.generation(desk, 4, "40000");
        check.generation(desk, 8, "80000");
    }

    private static void versionRefuses(Check check) {
        PackageDesk desk = Desks.keeping(2);
        for (int pack : new int[] {-1, 5, Integer.MIN_VALUE, Integer.MAX_VALUE}) {
            check.due("version(1, " + pack + ")", desk.version(1, pack), BAD);
            check.due("bad before none", desk.version(9, pack), BAD);
        }
        for (int number : new int[] {-1, 3, Integer.MIN_VALUE, Integer.MAX_VALUE}) {
            check.due("version(" + number + ", 0)", desk.version(number, 0), NONE);
            check.due("rollback(" + number + ")", desk.rollback(number), NONE);
        }
        check.due("current", desk.current(), 2);
    }

    private static void rollbackAnswers(Check check) {
        PackageDesk desk = new PackageDesk();
        for (int pack = 0; pack < 4; pack++) {
            desk.offer(pack, 3, 0);
            desk.wish(true, pack, 19);
        }
        desk.solve();
        desk.apply(-1);
        desk.unwish(3);
        desk.offer(0, 4, 0);
        desk.solve();
        desk.apply(-1);
        check.generation(desk, 2, "43300");
        check.due("one other, one gone", desk.rollback(1), 2);
        check.due("current", desk.current(), 1);
        check.due("to itself", desk.rollback(1), 0);
        check.due("back", desk.rollback(2), 2);
        check.due("to nothing", desk.rollback(0), 3);
        check.due("to four", desk.rollback(1), 4);
        check.plan(desk, "43300");
        check.steps(desk, 133, 103, 204);
        check.kept(desk, 0, 1, 2);
        desk.collect(1);
        check.due("kept no more", desk.rollback(0), NONE);
        check.due("current", desk.current(), 1);
    }

    private static void numbersGoOn(Check check) {
        PackageDesk desk = Desks.keeping(3);
        desk.rollback(1);
        check.due("collect", desk.collect(1), 2);
        check.kept(desk, 1, 3);
        Desks.planFor(desk, 9);
        check.due("after the greatest kept", desk.apply(-1), 4);
        desk.rollback(1);
        check.due("collect", desk.collect(1), 1);
        Desks.planFor(desk, 1);
        check.due("no steps: the current one, not the greatest", desk.apply(-1), 1);
        Desks.planFor(desk, 2);
        check.due("a number is given once", desk.apply(-1), 5);
        check.kept(desk, 1, 4, 5);
    }

    private static void collectAnswers(Check check) {
        PackageDesk desk = Desks.keeping(5);
        check.due("collect(6)", desk.collect(6), 0);
        check.due("collect(5)", desk.collect(5), 1);
        check.kept(desk, 1, 2, 3, 4, 5);
        check.due("collect(3)", desk.collect(3), 2);
        check.kept(desk, 3, 4, 5);
        check.due("collect(4)", desk.collect(4), 0);
        check.due("collect(1)", desk.collect(1), 2);
        check.kept(desk, 5);
        check.due("current", desk.current(), 5);
        check.generation(desk, 5, "50000");
    }

    private static void collectSparesTheCurrentOne(Check check) {
        for (int current = 0; current <= 5; current++) {
            for (int many = 1; many <= 6; many++) {
                PackageDesk desk = Desks.keeping(5);
                desk.rollback(current);
                int gone = 0;
                int[] left = new int[6];
                int count = 0;
                for (int number = 0; number <= 5; number++) {
                    if (number >= 6 - many || number == current) {
                        left[count++] = number;
                    } else {
                        gone++;
                    }
                }
                check.due("collect(" + many + ") at " + current, desk.collect(many), gone);
                check.kept(desk, java.util.Arrays.copyOf(left, count));
                check.due("current", desk.current(), current);
                check.due("what it gives", desk.version(current, 0), current);
            }
        }
    }

    /** Generations 1 .. 8, the second to the fifth package all with versions of their own. */
    private static void allPackagesAreKept(Check check) {
        PackageDesk desk = new PackageDesk();
        for (int i = 1; i <= 8; i++) {
            for (int pack = 1; pack < 5; pack++) {
                int version = 1 + (i + pack) % 9;
                desk.offer(pack, version, 0);
                desk.wish(true, pack, 11 * version);
            }
            desk.solve();
            check.due("apply", desk.apply(-1), i);
            for (int pack = 1; pack < 5; pack++) {
                desk.unwish(0);
                desk.withdraw(pack, 1 + (i + pack) % 9);
            }
        }
        check.kept(desk, 3, 4, 5, 6, 7, 8);
        check.generation(desk, 3, "05678");
        check.generation(desk, 4, "06789");
        check.generation(desk, 5, "07891");
        check.generation(desk, 8, "01234");
        check.due("rollback", desk.rollback(4), 4);
        check.due("collect", desk.collect(2), 3);
        check.generation(desk, 4, "06789");
        check.generation(desk, 7, "09123");
        check.generation(desk, 8, "01234");
    }

    private static void collectRefuses(Check check) {
        PackageDesk desk = Desks.keeping(3);
        for (int many : new int[] {0, 7, -1, Integer.MIN_VALUE, Integer.MAX_VALUE}) {
            check.due("collect(" + many + ")", desk.collect(many), BAD);
        }
        check.kept(desk, 0, 1, 2, 3);
    }
}
