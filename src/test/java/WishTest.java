/** Promises 5 and 6: wish, unwish. */
public final class WishTest {
    private static final int BAD = PackageDesk.BAD;
    private static final int FULL = PackageDesk.FULL;

    public static void main(String[] args) {
        Check check = new Check();
        wishAnswers(check);
        wishRefuses(check);
        wishesCount(check);
        unwishAnswers(check);
        unwishMovesLaterOnes(check);
        check.finish();
    }

    private static void wishAnswers(Check check) {
        PackageDesk desk = new PackageDesk();
        check.due("wish 0", desk.wish(true, 0, 11), 0);
        check.due("wish 1, the same", desk.wish(true, 0, 11), 1);
        check.due("wish 2", desk.wish(false, 4, 99), 2);
        check.due("wish 3", desk.wish(false, 2, 19), 3);
        check.due("a fifth", desk.wish(true, 1, 11), FULL);
        check.due("bad before full", desk.wish(true, 5, 11), BAD);
        check.due("bad range before full", desk.wish(true, 1, 10), BAD);
    }

    private static void wishRefuses(Check check) {
        PackageDesk desk = new PackageDesk();
        for (int pack : new int[] {-1, 5, Integer.MIN_VALUE, Integer.MAX_VALUE}) {
            check.due("wish on " + pack, desk.wish(true, pack, 19), BAD);
        }
        for (int range : new int[] {0, 9, 10, 21, 98, 100, 110, 119, -11, -19, Integer.MIN_VALUE, Integer.MAX_VALUE}) {
            check.due("wish in " + range, desk.wish(true, 0, range), BAD);
        }
        check.due("nothing was added", desk.unwish(0), BAD);
        check.due("there is a solution", desk.solutions(), 1);
    }

    private static void wishesCount(Check check) {
        PackageDesk desk = new PackageDesk();
        for (int version = 3; version <= 6; version++) {
            desk.offer(1, version, 0);
        }
        desk.wish(true, 1, 45);
        check.due("to have: below", desk.possible(1, 3), 0);
        check.due("to have: lo", desk.possible(1, 4), 1);
        check.due("to have: hi", desk.possible(1, 5), 1);
        check.due("to have: above", desk.possible(1, 6), 0);
        check.due("to have: none", desk.possible(1, 0), 0);
        desk.unwish(0);
        desk.wish(false, 1, 45);
        check.due("to avoid: below", desk.possible(1, 3), 1);
        check.due("to avoid: lo", desk.possible(1, 4), 0);
        check.due("to avoid: hi", desk.possible(1, 5), 0);
        check.due("to avoid: above", desk.possible(1, 6), 1);
        check.due("to avoid: none", desk.possible(1, 0), 1);
    }

    private static void unwishAnswers(Check check) {
        PackageDesk desk = new PackageDesk();
        for (int i = 0; i < 4; i++) {
            desk.wish(true, i, 19);
        }
        check.due("unwish(4)", desk.unwish(4), BAD);
        check.due("unwish(-1)", desk.unwish(-1), BAD);
        check.due("unwish of the least int", desk.unwish(Integer.MIN_VALUE), BAD);
        check.due("unwish of the greatest int", desk.unwish(Integer.MAX_VALUE), BAD);
        check.due("unwish(3)", desk.unwish(3), 3);
        check.due("unwish(3) again", desk.unwish(3), BAD);
        check.due("unwish(0)", desk.unwish(0), 2);
        check.due("unwish(1)", desk.unwish(1), 1);
        check.due("a new one is numbered behind", desk.wish(true, 0, 19), 1);
        check.due("unwish(0)", desk.unwish(0), 1);
        check.due("unwish(0)", desk.unwish(0), 0);
        check.due("unwish(0) of none", desk.unwish(0), BAD);
        check.due("all are gone", desk.solutions(), 1);
    }

    private static void unwishMovesLaterOnes(Check check) {
        PackageDesk desk = new PackageDesk();
        desk.offer(0, 1, 0);
        desk.wish(false, 0, 22);
        desk.wish(false, 0, 11);
        desk.wish(true, 3, 55);
        desk.wish(true, 0, 13);
        check.due("wish 2 is at fault", desk.blame(), 4);
        check.due("unwish(0)", desk.unwish(0), 3);
        check.due("it is wish 1 now", desk.blame(), 2);
        check.due("unwish(1)", desk.unwish(1), 2);
        check.due("0 and 1 are against each other", desk.blame(), 3);
        check.due("unwish(0)", desk.unwish(0), 1);
        check.due("to have 0 is left", desk.solve(), 1);
        check.plan(desk, "10000");
    }
}
