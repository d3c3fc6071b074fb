/** Promises 12 to 14: lock, locked, reuse. */
public final class LockTest {
    private static final int BAD = PackageDesk.BAD;
    private static final int NONE = PackageDesk.NONE;

    public static void main(String[] args) {
        Check check = new Check();
        lockAnswers(check);
        lockedRefuses(check);
        reuseWithoutLock(check);
        reuseTakesTheLock(check);
        reuseMakesAPlan(check);
        reuseOfALockThatIsNoSolution(check);
        reuseOfALockOutOfTheIndex(check);
        reuseFindsNothing(check);
        check.finish();
    }

    private static void lockAnswers(Check check) {
        PackageDesk desk = new PackageDesk();
        check.due("no plan", desk.lock(), NONE);
        desk.solve();
        check.due("an empty plan", desk.lock(), 0);
        check.lock(desk, "00000");
        desk.offer(1, 4, 0);
        desk.offer(3, 2, 0);
        desk.wish(true, 1, 44);
        desk.wish(true, 3, 22);
        desk.solve();
        check.lock(desk, "00000");
        check.due("lock", desk.lock(), 2);
        check.lock(desk, "04020");
        desk.withdraw(1, 4);
        check.due("solve", desk.solve(), NONE);
        check.due("lock without a plan", desk.lock(), NONE);
        check.lock(desk, "04020");
    }

    private static void lockedRefuses(Check check) {
        PackageDesk desk = new PackageDesk();
        check.due("bad before none", desk.locked(5), BAD);
        check.due("no lock", desk.locked(4), NONE);
        desk.solve();
        check.due("a plan is no lock", desk.locked(4), NONE);
        desk.lock();
        for (int pack : new int[] {-1, 5, Integer.MIN_VALUE, Integer.MAX_VALUE}) {
            check.due("locked(" + pack + ")", desk.locked(pack), BAD);
        }
        check.due("locked(4)", desk.locked(4), 0);
    }

    private static void reuseWithoutLock(Check check) {
        PackageDesk desk = new PackageDesk();
        desk.offer(4, 7, 0);
        desk.wish(true, 4, 79);
        check.due("as solve", desk.reuse(), 1);
        check.plan(desk, "00007");
    }

    private static void reuseTakesTheLock(Check check) {
        PackageDesk desk = new PackageDesk();
        desk.offer(0, 3, 0);
        desk.wish(true, 0, 19);
        desk.solve();
        desk.lock();
        desk.offer(0, 5, 0);
        check.due("solve takes the better one", desk.solve(), 1);
        check.plan(desk, "50000");
        check.due("reuse", desk.reuse(), 10);
        check.plan(desk, "30000");
        desk.unwish(0);
        check.due("a solution, though not the best", desk.reuse(), 10);
        check.plan(desk, "30000");
        check.lock(desk, "30000");
    }

    private static void reuseMakesAPlan(Check check) {
        PackageDesk desk = new PackageDesk();
        desk.solve();
        desk.lock();
        desk.wish(true, 0, 19);
        check.due("solve", desk.solve(), NONE);
        desk.unwish(0);
        check.due("reuse", desk.reuse(), 10);
        check.plan(desk, "00000");
    }

    private static void reuseOfALockThatIsNoSolution(Check check) {
        PackageDesk desk = new PackageDesk();
        desk.offer(0, 3, 1);
        desk.offer(0, 2, 0);
        desk.offer(1, 1, 1);
        desk.wish(true, 0, 19);
        desk.solve();
        desk.lock();
        desk.wish(true, 1, 11);
        check.due("a wish is not met", desk.reuse(), 2);
        check.plan(desk, "21000");
        desk.unwish(1);
        check.due("again", desk.reuse(), 10);
        desk.demand(true, 3, 4, 19);
        check.due("a new need", desk.reuse(), 1);
        check.plan(desk, "20000");
        check.lock(desk, "30000");
        desk.withdraw(0, 3);
        desk.offer(0, 3, 0);
        check.due("the version has come anew", desk.reuse(), 10);
    }

    private static void reuseOfALockOutOfTheIndex(Check check) {
        PackageDesk desk = new PackageDesk();
        desk.offer(2, 9, 0);
        desk.offer(2, 1, 0);
        desk.wish(true, 2, 19);
        desk.solve();
        desk.lock();
        desk.withdraw(2, 9);
        check.due("a choice has versions of the index alone", desk.reuse(), 1);
        check.plan(desk, "00100");
        for (int pack = 0; pack < 5; pack++) {
            PackageDesk gone = new PackageDesk();
            for (int each = 0; each < 5; each++) {
                gone.offer(each, 5, 0);
                gone.demand(true, 10 * each + 5, (each + 1) % 5, 55);
            }
            gone.wish(true, 0, 55);
            check.due("all five", gone.solve(), 5);
            gone.lock();
            check.due("reuse", gone.reuse(), 10);
            gone.withdraw(pack, 5);
            gone.offer(pack, 4, 0);
            gone.offer(pack, 6, 0);
            check.due("without version 5 of " + pack, gone.reuse(), NONE);
        }
        PackageDesk clash = new PackageDesk();
        clash.offer(2, 9, 1);
        clash.offer(1, 3, 0);
        clash.wish(true, 2, 19);
        clash.wish(true, 1, 19);
        clash.solve();
        clash.lock();
        clash.withdraw(1, 3);
        clash.offer(1, 3, 1);
        check.due("other paths now", clash.reuse(), NONE);
    }

    private static void reuseFindsNothing(Check check) {
        PackageDesk desk = new PackageDesk();
        desk.solve();
        desk.lock();
        desk.wish(true, 0, 11);
        check.due("reuse", desk.reuse(), NONE);
        check.due("there is no plan then", desk.chosen(0), NONE);
        check.lock(desk, "00000");
    }
}
