/** Promises 7 to 11: solve, chosen, solutions, possible, blame. */
public final class SolveTest {
    private static final int BAD = PackageDesk.BAD;
    private static final int NONE = PackageDesk.NONE;

    public static void main(String[] args) {
        Check check = new Check();
        noneIsBest(check);
        greaterIsBetter(check);
        firstPackageDecides(check);
        needsAndClashes(check);
        demandsOfNoneDoNotCount(check);
        paths(check);
        noSolutionTakesThePlanAway(check);
        planStays(check);
        chosenRefuses(check);
        possibleAnswers(check);
        questionsKeepThePlan(check);
        questionsAfterAWithdrawal(check);
        blameAnswers(check);
        blameTakesTheFewestThenTheLeast(check);
        check.finish();
    }

    private static void noneIsBest(Check check) {
        PackageDesk desk = new PackageDesk();
        desk.offer(0, 9, 0);
        desk.offer(3, 1, 0);
        check.due("without wishes", desk.solve(), 0);
        check.plan(desk, "00000");
        check.due("solutions", desk.solutions(), 4);
    }

    private static void greaterIsBetter(Check check) {
        PackageDesk desk = new PackageDesk();
        desk.offer(2, 3, 0);
        desk.offer(2, 8, 0);
        desk.offer(2, 5, 0);
        desk.offer(2, 9, 0);
        desk.wish(true, 2, 18);
        check.due("solve", desk.solve(), 1);
        check.plan(desk, "00800");
        desk.wish(false, 2, 69);
        desk.solve();
        check.plan(desk, "00500");
        check.due("solutions", desk.solutions(), 2);
    }

    private static void firstPackageDecides(Check check) {
        PackageDesk desk = new PackageDesk();
        desk.offer(0, 1, 0);
        desk.offer(0, 2, 0);
        desk.offer(1, 4, 0);
        desk.offer(1, 5, 0);
        desk.offer(4, 1, 0);
        desk.demand(true, 2, 1, 44);
        desk.demand(true, 2, 4, 11);
        desk.wish(true, 0, 19);
        check.due("0 at its greatest, though it brings two more", desk.solve(), 3);
        check.plan(desk, "24001");
        desk.demand(false, 41, 1, 44);
        check.due("then the lesser one alone", desk.solve(), 1);
        check.plan(desk, "10000");
    }

    private static void needsAndClashes(Check check) {
        PackageDesk desk = new PackageDesk();
        for (int version = 2; version <= 5; version++) {
            desk.offer(1, version, 0);
        }
        desk.offer(3, 1, 0);
        desk.wish(true, 3, 11);
        desk.demand(true, 31, 1, 34);
        check.due("a need takes the greatest in its range", desk.solve(), 2);
        check.plan(desk, "04010");
        check.due("solutions with lo and hi", desk.solutions(), 2);
        desk.demand(false, 31, 1, 49);
        check.due("a clash of the same version", desk.solve(), 2);
        check.plan(desk, "03010");
        desk.demand(false, 31, 1, 13);
        check.due("nothing is left", desk.solve(), NONE);
        check.due("solutions", desk.solutions(), 0);
        desk.unwish(0);
        check.due("without the wish 3 has none in all", desk.solutions(), 5);
    }

    private static void demandsOfNoneDoNotCount(Check check) {
        PackageDesk desk = new PackageDesk();
        desk.offer(0, 1, 0);
        desk.offer(0, 2, 0);
        desk.offer(1, 1, 0);
        desk.demand(true, 1, 2, 19);
        desk.demand(false, 2, 1, 11);
        check.due("demands of versions not given are idle", desk.possible(1, 1), 1);
        check.due("the clash of 2", desk.solutions(), 3);
        desk.offer(2, 7, 0);
        check.due("the need of 1", desk.solutions(), 8);
    }

    private static void paths(Check check) {
        PackageDesk desk = new PackageDesk();
        desk.offer(0, 1, 129);
        desk.offer(4, 1, 128);
        desk.offer(4, 2, 126);
        desk.offer(2, 1, 1);
        check.due("a path in common", desk.solutions(), 8);
        desk.wish(true, 0, 11);
        desk.wish(true, 4, 19);
        check.due("solve", desk.solve(), 2);
        check.plan(desk, "10002");
        desk.wish(true, 2, 11);
        check.due("all three", desk.solve(), NONE);
        desk.unwish(0);
        check.due("2 and 4", desk.solutions(), 2);
        PackageDesk apart = new PackageDesk();
        apart.offer(0, 1, 3);
        apart.offer(1, 1, 4);
        apart.offer(3, 1, 1);
        check.due("another package between the two", apart.solutions(), 6);
        PackageDesk same = new PackageDesk();
        same.offer(1, 1, 4);
        same.offer(1, 2, 4);
        check.due("versions of one package may share", same.solutions(), 3);
    }

    private static void noSolutionTakesThePlanAway(Check check) {
        PackageDesk desk = new PackageDesk();
        check.due("solve", desk.solve(), 0);
        check.due("chosen", desk.chosen(0), 0);
        desk.wish(true, 0, 11);
        check.due("solve", desk.solve(), NONE);
        check.due("chosen", desk.chosen(0), NONE);
        check.due("steps", desk.steps(), NONE);
        check.due("lock", desk.lock(), NONE);
        desk.offer(0, 1, 0);
        check.due("no plan before it is made", desk.chosen(0), NONE);
        check.due("solve", desk.solve(), 1);
        check.plan(desk, "10000");
    }

    private static void planStays(Check check) {
        PackageDesk desk = new PackageDesk();
        desk.offer(0, 1, 0);
        desk.wish(true, 0, 11);
        desk.solve();
        desk.withdraw(0, 1);
        check.plan(desk, "10000");
        desk.unwish(0);
        check.plan(desk, "10000");
        desk.wish(true, 4, 44);
        check.plan(desk, "10000");
    }

    private static void chosenRefuses(Check check) {
        PackageDesk desk = new PackageDesk();
        check.due("bad before none", desk.chosen(5), BAD);
        check.due("bad before none", desk.chosen(-1), BAD);
        check.due("no plan", desk.chosen(4), NONE);
        desk.solve();
        for (int pack : new int[] {-1, 5, Integer.MIN_VALUE, Integer.MAX_VALUE}) {
            check.due("chosen(" + pack + ")", desk.chosen(pack), BAD);
        }
    }

    private static void possibleAnswers(Check check) {
        PackageDesk desk = new PackageDesk();
        for (int pack : new int[] {-1, 5, Integer.MIN_VALUE, Integer.MAX_VALUE}) {
            check.due("possible(" + pack + ", 0)", desk.possible(pack, 0), BAD);
        }
        for (int version : new int[] {-1, 10, Integer.MIN_VALUE, Integer.MAX_VALUE}) {
            check.due("possible(0, " + version + ")", desk.possible(0, version), BAD);
        }
        desk.offer(0, 9, 0);
        desk.offer(0, 1, 0);
        desk.offer(1, 2, 0);
        desk.demand(true, 9, 1, 22);
        desk.wish(false, 1, 22);
        check.due("by way of a wish", desk.possible(0, 9), 0);
        check.due("free", desk.possible(0, 1), 1);
        check.due("none", desk.possible(0, 0), 1);
        check.due("not in the index", desk.possible(0, 5), 0);
        check.due("avoided", desk.possible(1, 2), 0);
        desk.wish(true, 4, 11);
        check.due("no solution: not even none", desk.possible(0, 0), 0);
    }

    private static void questionsKeepThePlan(Check check) {
        PackageDesk desk = new PackageDesk();
        desk.offer(0, 3, 0);
        desk.wish(true, 0, 33);
        desk.solve();
        desk.wish(true, 1, 11);
        check.due("solutions", desk.solutions(), 0);
        check.due("possible", desk.possible(0, 3), 0);
        check.due("blame", desk.blame(), 2);
        check.plan(desk, "30000");
    }

    private static void questionsAfterAWithdrawal(Check check) {
        PackageDesk desk = new PackageDesk();
        desk.offer(0, 4, 0);
        desk.wish(true, 0, 19);
        desk.solve();
        desk.withdraw(0, 4);
        check.due("blame", desk.blame(), 1);
        desk.offer(0, 4, 0);
        desk.solve();
        desk.withdraw(0, 4);
        check.due("solutions", desk.solutions(), 0);
        desk.offer(0, 4, 0);
        desk.solve();
        desk.withdraw(0, 4);
        check.due("possible", desk.possible(0, 4), 0);
        desk.offer(0, 4, 0);
        desk.solve();
        desk.withdraw(0, 4);
        check.due("solve", desk.solve(), NONE);
    }

    private static void blameAnswers(Check check) {
        PackageDesk desk = new PackageDesk();
        desk.offer(0, 1, 1);
        desk.offer(1, 1, 2);
        desk.offer(2, 1, 3);
        desk.wish(true, 0, 19);
        desk.wish(true, 1, 19);
        check.due("there is a solution", desk.blame(), NONE);
        desk.demand(false, 1, 1, 11);
        check.due("0 and 1", desk.blame(), 3);
        desk.wish(true, 2, 19);
        check.due("0 and 1 before 0 and 2, 1 and 2", desk.blame(), 3);
        desk.unwish(1);
        check.due("0 and 2", desk.blame(), 3);
        desk.wish(true, 4, 19);
        check.due("one that nothing meets", desk.blame(), 4);
    }

    private static void blameTakesTheFewestThenTheLeast(Check check) {
        PackageDesk desk = new PackageDesk();
        desk.offer(0, 1, 0);
        desk.offer(1, 1, 0);
        desk.offer(2, 1, 0);
        desk.demand(true, 21, 3, 19);
        desk.offer(3, 1, 0);
        desk.demand(false, 31, 0, 11);
        desk.demand(false, 31, 1, 11);
        desk.wish(true, 0, 11);
        desk.wish(true, 1, 11);
        desk.wish(true, 2, 11);
        check.due("wishes 0 and 2, wishes 1 and 2", desk.blame(), 5);
        desk.wish(false, 2, 19);
        check.due("of pairs the least number", desk.blame(), 5);
        desk.unwish(0);
        check.due("numbers move", desk.blame(), 3);
        desk.unwish(0);
        check.due("to have and to avoid", desk.blame(), 3);

        PackageDesk fewest = new PackageDesk();
        fewest.offer(0, 1, 0);
        fewest.wish(true, 0, 11);
        fewest.wish(false, 0, 11);
        fewest.wish(false, 1, 11);
        fewest.wish(true, 1, 11);
        check.due("8 alone is fewer than 3", fewest.blame(), 8);
        fewest.unwish(0);
        fewest.unwish(0);
        fewest.wish(true, 2, 22);
        check.due("of 2 and 4 the lesser", fewest.blame(), 2);
        fewest.unwish(0);
        check.due("of 1 and 2 the lesser", fewest.blame(), 1);

        PackageDesk three = new PackageDesk();
        three.offer(0, 1, 0);
        three.offer(1, 1, 0);
        three.offer(2, 1, 0);
        three.offer(2, 2, 0);
        three.demand(false, 21, 0, 11);
        three.demand(false, 22, 1, 11);
        three.wish(false, 4, 11);
        three.wish(true, 0, 11);
        three.wish(true, 1, 11);
        three.wish(true, 2, 12);
        check.due("it takes three", three.blame(), 14);

        PackageDesk four = new PackageDesk();
        for (int version = 1; version <= 4; version++) {
            four.offer(0, version, 0);
            four.wish(false, 0, 11 * version);
        }
        four.unwish(3);
        four.unwish(2);
        four.wish(false, 0, 34);
        four.wish(true, 0, 19);
        check.due("it takes four", four.blame(), 15);
    }
}
