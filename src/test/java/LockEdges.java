/** The promises 12 to 14: lock, locked, reuse. */
final class LockEdges {
    private static final int BAD = PackageDesk.BAD;
    private static final int NONE = PackageDesk.NONE;
    private static final String[] CHOICES = {"00000", "90000", "00001", "12000", "01203", "98760", "12345", "99999"};

    private LockEdges() {
    }

    static void add(Sentences document) {
        document.section("Promise 12: lock");
        document.says("The lock becomes the plan.", LockEdges::locksThePlan);
        document.says("The lock becomes the plan.", LockEdges::anotherPlanLeavesTheLock);
        document.says("There is no plan: NONE.", LockEdges::lockWithoutPlan);
        document.says("Else answers how many packages have a version in it.", LockEdges::lockCounts);

        document.section("Promise 13: locked");
        document.says("The version that the lock gives a package, 0 for none.", LockEdges::whatTheLockGives);
        document.says("pack is not good: BAD", LockEdges::lockedOfAWrongPackage);
        document.says("there is no lock: NONE.", LockEdges::lockedWithoutLock);

        document.section("Promise 14: reuse");
        document.says("If there is a lock, and it is a solution now", LockEdges::aLockThatIsASolution);
        document.says("the plan becomes the lock", LockEdges::planBecomesTheLock);
        document.says(", and the answer is 10.", LockEdges::answerIsTen);
        String otherwise = "Else as solve.";
        document.says(otherwise, LockEdges::reuseWithoutLock);
        document.says(otherwise, LockEdges::aWishIsNotMet);
        document.says(otherwise, LockEdges::aVersionHasGone);
        document.says(otherwise, LockEdges::aNeedHasCome);
        document.says(otherwise, LockEdges::aClashHasCome);
        document.says(otherwise, LockEdges::pathsAreOthersNow);
        document.says(otherwise, LockEdges::noSolutionAtAll);
    }

    private static int given(String digits) {
        return (int) digits.chars().filter(digit -> digit != '0').count();
    }

    private static void locksThePlan(Check check) {
        PackageDesk desk = new PackageDesk();
        for (String digits : CHOICES) {
            Desks.plan(desk, digits);
            check.due("lock()", desk.lock(), given(digits));
            check.lock(desk, digits);
            check.plan(desk, digits);
            Desks.withdraw(desk, digits);
        }
    }

    private static void anotherPlanLeavesTheLock(Check check) {
        PackageDesk desk = Desks.planning("12345");
        desk.lock();
        desk.solve();
        check.plan(desk, "00000");
        check.lock(desk, "12345");
        desk.apply(-1);
        desk.rollback(0);
        check.lock(desk, "12345");
        desk.wish(true, 0, 99);
        desk.solve();
        check.noPlan(desk);
        check.lock(desk, "12345");
    }

    private static void lockWithoutPlan(Check check) {
        PackageDesk desk = new PackageDesk();
        check.due("lock()", desk.lock(), NONE);
        check.noLock(desk);
        desk.wish(true, 0, 11);
        desk.solve();
        check.due("lock() after a solve that finds nothing", desk.lock(), NONE);
        check.noLock(desk);
        desk.unwish(0);
        desk.solve();
        check.due("lock()", desk.lock(), 0);
        desk.wish(true, 0, 11);
        desk.solve();
        check.due("lock() again", desk.lock(), NONE);
        check.lock(desk, "00000");
    }

    private static void lockCounts(Check check) {
        for (String digits : CHOICES) {
            check.due("lock() of " + digits, Desks.planning(digits).lock(), given(digits));
        }
    }

    private static void whatTheLockGives(Check check) {
        for (String digits : CHOICES) {
            PackageDesk desk = Desks.planning(digits);
            desk.lock();
            for (int pack = 0; pack < 5; pack++) {
                check.due("locked(" + pack + ") of " + digits, desk.locked(pack), digits.charAt(pack) - '0');
            }
        }
    }

    private static void lockedOfAWrongPackage(Check check) {
        for (int pack : Wrong.PACKS) {
            PackageDesk desk = Desks.planning("12345");
            check.due("without lock, locked(" + pack + ")", desk.locked(pack), BAD);
            desk.lock();
            check.due("locked(" + pack + ")", desk.locked(pack), BAD);
        }
    }

    private static void lockedWithoutLock(Check check) {
        PackageDesk desk = new PackageDesk();
        check.noLock(desk);
        Desks.plan(desk, "12345");
        check.noLock(desk);
        desk.apply(-1);
        desk.reuse();
        check.noLock(desk);
    }

    private static void aLockThatIsASolution(Check check) {
        PackageDesk desk = Desks.planning("12345");
        desk.lock();
        check.due("though there are better ones", desk.reuse(), 10);
        desk.wish(true, 0, 11);
        desk.wish(false, 0, 29);
        desk.wish(true, 4, 59);
        desk.wish(false, 4, 14);
        check.due("with wishes that it meets", desk.reuse(), 10);
        desk.demand(true, 1, 1, 12);
        desk.demand(true, 1, 1, 29);
        desk.demand(false, 1, 4, 14);
        desk.demand(false, 45, 3, 59);
        check.due("with demands that it meets", desk.reuse(), 10);
        desk.withdraw(4, 5);
        check.due("without a version of it", desk.reuse(), NONE);
        desk.offer(4, 5, 255);
        check.due("with this version again", desk.reuse(), 10);
    }

    private static void planBecomesTheLock(Check check) {
        for (String digits : CHOICES) {
            PackageDesk desk = Desks.planning(digits);
            desk.lock();
            desk.solve();
            check.plan(desk, "00000");
            check.due("reuse()", desk.reuse(), 10);
            check.plan(desk, digits);
            check.lock(desk, digits);
        }
        PackageDesk planless = Desks.planning("30000");
        planless.lock();
        planless.wish(true, 1, 11);
        planless.solve();
        check.noPlan(planless);
        planless.unwish(0);
        check.due("reuse() without a plan", planless.reuse(), 10);
        check.plan(planless, "30000");
    }

    private static void answerIsTen(Check check) {
        for (String digits : CHOICES) {
            PackageDesk desk = Desks.planning(digits);
            desk.lock();
            check.due("reuse() of " + digits, desk.reuse(), 10);
            check.due("again", desk.reuse(), 10);
        }
    }

    private static void reuseWithoutLock(Check check) {
        PackageDesk desk = new PackageDesk();
        check.due("reuse()", desk.reuse(), 0);
        check.plan(desk, "00000");
        desk.offer(2, 7, 0);
        desk.wish(true, 2, 19);
        check.due("reuse()", desk.reuse(), 1);
        check.plan(desk, "00700");
        check.noLock(desk);
    }

    private static void aWishIsNotMet(Check check) {
        PackageDesk desk = Desks.planning("30050");
        desk.lock();
        desk.offer(0, 2, 0);
        desk.wish(false, 0, 33);
        desk.wish(true, 0, 19);
        check.due("reuse()", desk.reuse(), 1);
        check.plan(desk, "20000");
        check.lock(desk, "30050");
    }

    private static void aVersionHasGone(Check check) {
        for (int pack = 0; pack < 5; pack++) {
            PackageDesk desk = Desks.planning("55555");
            desk.lock();
            desk.withdraw(pack, 5);
            desk.offer(pack, 4, 0);
            desk.offer(pack, 6, 0);
            check.due("reuse() without version 5 of " + pack, desk.reuse(), 0);
            check.plan(desk, "00000");
            check.lock(desk, "55555");
        }
    }

    private static void aNeedHasCome(Check check) {
        for (int pack = 0; pack < 5; pack++) {
            PackageDesk desk = Desks.planning("55555");
            desk.lock();
            desk.demand(true, 10 * pack + 5, (pack + 1) % 5, 69);
            check.due("reuse() with a need of " + pack, desk.reuse(), 0);
            check.plan(desk, "00000");
        }
    }

    private static void aClashHasCome(Check check) {
        for (int pack = 0; pack < 5; pack++) {
            PackageDesk desk = Desks.planning("55555");
            desk.lock();
            desk.demand(false, 10 * pack + 5, (pack + 1) % 5, 55);
            check.due("reuse() with a clash of " + pack, desk.reuse(), 0);
            check.plan(desk, "00000");
        }
    }

    private static void pathsAreOthersNow(Check check) {
        for (int pack = 0; pack < 4; pack++) {
            PackageDesk desk = Desks.planning("55555");
            desk.lock();
            desk.withdraw(pack, 5);
            desk.offer(pack, 5, 128);
            check.due("reuse()", desk.reuse(), 10);
            desk.withdraw(4, 5);
            desk.offer(4, 5, 129);
            check.due("reuse() with a path in common", desk.reuse(), 0);
            check.plan(desk, "00000");
        }
    }

    private static void noSolutionAtAll(Check check) {
        PackageDesk desk = Desks.planning("30000");
        desk.lock();
        desk.wish(true, 0, 33);
        desk.wish(false, 0, 33);
        check.due("reuse()", desk.reuse(), NONE);
        check.noPlan(desk);
        check.lock(desk, "30000");
        check.due("lock()", desk.lock(), NONE);
        desk.unwish(1);
        check.due("reuse() of the lock that stayed", desk.reuse(), 10);
        check.plan(desk, "30000");
    }
}
