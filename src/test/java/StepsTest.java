/** Promises 15 and 16: steps, step. */
public final class StepsTest {
    private static final int NONE = PackageDesk.NONE;

    public static void main(String[] args) {
        Check check = new Check();
        withoutPlan(check);
        freePackages(check);
        takeAwayAndPut(check);
        chain(check);
        rangesAndClashes(check);
        groups(check);
        groupsWait(check);
        packagesThatStayCount(check);
        indexOfNowCounts(check);
        needOnOneWithoutVersion(check);
        demandsThatAreGoneDoNotCount(check);
        allTenSteps(check);
        check.finish();
    }

    /** A desk with version pack + 1 of every package, and wishes to have the packages 0 .. 3. */
    private static PackageDesk full() {
        PackageDesk desk = new PackageDesk();
        for (int pack = 0; pack < 5; pack++) {
            desk.offer(pack, pack + 1, 0);
        }
        for (int pack = 0; pack < 4; pack++) {
            desk.wish(true, pack, 19);
        }
        return desk;
    }

    private static void withoutPlan(Check check) {
        PackageDesk desk = new PackageDesk();
        check.due("steps", desk.steps(), NONE);
        check.due("step", desk.step(0), NONE);
        desk.solve();
        check.steps(desk);
        check.due("step of the least int", desk.step(Integer.MIN_VALUE), NONE);
        check.due("step of the greatest int", desk.step(Integer.MAX_VALUE), NONE);
    }

    private static void freePackages(Check check) {
        PackageDesk desk = full();
        desk.solve();
        check.steps(desk, 201, 212, 223, 234);
    }

    private static void takeAwayAndPut(Check check) {
        PackageDesk desk = full();
        desk.offer(1, 9, 0);
        desk.solve();
        desk.apply(-1);
        check.steps(desk);
        desk.unwish(3);
        desk.unwish(0);
        desk.wish(true, 4, 19);
        desk.wish(false, 1, 99);
        check.due("solve", desk.solve(), 3);
        check.plan(desk, "02305");
        check.steps(desk, 134, 119, 101, 212, 245);
        desk.apply(-1);
        for (int i = 0; i < 4; i++) {
            desk.unwish(0);
        }
        desk.solve();
        check.steps(desk, 145, 123, 112);
        desk.rollback(0);
        check.steps(desk);
    }

    private static void chain(Check check) {
        PackageDesk desk = full();
        desk.demand(true, 1, 1, 22);
        desk.demand(true, 12, 4, 55);
        desk.demand(true, 45, 3, 44);
        desk.solve();
        check.steps(desk, 223, 234, 245, 212, 201);
    }

    private static void rangesAndClashes(Check check) {
        PackageDesk desk = full();
        desk.demand(false, 1, 1, 33);
        desk.solve();
        check.steps(desk, 201, 212, 223, 234);
        desk.demand(true, 1, 3, 99);
        check.steps(desk, 212, 223, 234, 201);
    }

    private static void groups(Check check) {
        PackageDesk desk = full();
        desk.demand(true, 1, 3, 44);
        desk.demand(true, 34, 0, 11);
        desk.solve();
        check.steps(desk, 201, 234, 212, 223);
        desk.demand(true, 34, 2, 33);
        check.steps(desk, 212, 223, 201, 234);
        desk.demand(true, 23, 1, 22);
        desk.demand(true, 12, 3, 44);
        check.steps(desk, 201, 212, 223, 234);
    }

    private static void groupsWait(Check check) {
        PackageDesk desk = full();
        desk.demand(true, 1, 2, 33);
        desk.demand(true, 23, 0, 11);
        desk.demand(true, 12, 3, 44);
        desk.demand(true, 34, 1, 22);
        desk.demand(true, 1, 3, 44);
        desk.demand(true, 12, 4, 55);
        desk.solve();
        check.steps(desk, 245, 212, 234, 201, 223);
    }

    private static void packagesThatStayCount(Check check) {
        PackageDesk desk = full();
        desk.unwish(0);
        desk.unwish(0);
        desk.unwish(0);
        desk.demand(true, 1, 3, 44);
        desk.solve();
        desk.apply(-1);
        desk.wish(true, 0, 11);
        desk.wish(true, 1, 22);
        check.due("solve", desk.solve(), 3);
        check.steps(desk, 212, 201);
    }

    private static void indexOfNowCounts(Check check) {
        PackageDesk desk = full();
        desk.demand(true, 1, 1, 22);
        desk.solve();
        check.steps(desk, 212, 201, 223, 234);
        desk.withdraw(0, 1);
        check.steps(desk, 201, 212, 223, 234);
        desk.offer(0, 1, 0);
        desk.demand(true, 1, 2, 33);
        check.steps(desk, 212, 223, 201, 234);
        desk.withdraw(2, 3);
        check.steps(desk, 212, 223, 201, 234);
        desk.offer(0, 9, 0);
        desk.demand(true, 9, 3, 44);
        check.steps(desk, 212, 223, 201, 234);
    }

    private static void demandsThatAreGoneDoNotCount(Check check) {
        PackageDesk desk = full();
        desk.demand(true, 1, 3, 44);
        desk.solve();
        desk.withdraw(0, 1);
        desk.offer(0, 1, 0);
        check.steps(desk, 201, 212, 223, 234);
        desk.demand(false, 1, 2, 99);
        check.steps(desk, 201, 212, 223, 234);
    }

    private static void allTenSteps(Check check) {
        PackageDesk desk = full();
        desk.demand(true, 23, 4, 55);
        desk.solve();
        desk.apply(-1);
        for (int pack = 0; pack < 5; pack++) {
            desk.withdraw(pack, pack + 1);
            desk.offer(pack, 9 - pack, 0);
        }
        desk.offer(4, 6, 0);
        desk.demand(true, 27, 4, 66);
        check.due("solve", desk.solve(), 5);
        check.plan(desk, "98766");
        check.steps(desk, 145, 134, 123, 112, 101, 209, 218, 236, 246, 227);
        check.due("a crash before the last", desk.apply(9), NONE);
        check.due("apply", desk.apply(10), 2);
    }

    private static void needOnOneWithoutVersion(Check check) {
        PackageDesk desk = full();
        desk.solve();
        desk.demand(true, 1, 4, 55);
        desk.demand(true, 45, 2, 33);
        check.steps(desk, 201, 212, 223, 234);
    }
}
