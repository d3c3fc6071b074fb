/** The promises 5 and 6: wish, unwish. */
final class WishEdges {
    private static final int BAD = PackageDesk.BAD;
    private static final int FULL = PackageDesk.FULL;

    private WishEdges() {
    }

    static void add(Sentences document) {
        document.section("Promise 5: wish");
        document.says("Adds a wish to have, or to avoid.", WishEdges::toHaveOrToAvoid);
        document.says("pack or range is not good: BAD", WishEdges::wishForAWrongPackage);
        document.says("pack or range is not good: BAD", WishEdges::wishInAWrongRange);
        document.says("there are four: FULL.", WishEdges::aFifthWish);
        document.says("Else answers its number.", WishEdges::numberOfAWish);

        document.section("Promise 6: unwish");
        document.says("Takes a wish out", WishEdges::takesAWishOut);
        document.says("later ones get numbers less by one.", WishEdges::laterNumbers);
        document.says("There is no wish i: BAD.", WishEdges::noSuchWish);
        document.says("Else answers how many are left.", WishEdges::wishesLeft);
    }

    private static void toHaveOrToAvoid(Check check) {
        for (int pack = 0; pack < 5; pack++) {
            PackageDesk desk = new PackageDesk();
            desk.offer(pack, 4, 0);
            desk.offer(pack, 6, 0);
            check.due("to have", desk.wish(true, pack, 46), 0);
            check.due("4 or 6", desk.solutions(), 2);
            check.due("to avoid", desk.wish(false, pack, 56), 1);
            check.due("4 alone", desk.solutions(), 1);
            desk.solve();
            check.due("chosen(" + pack + ")", desk.chosen(pack), 4);
        }
    }

    private static void wishForAWrongPackage(Check check) {
        for (int pack : Wrong.PACKS) {
            PackageDesk desk = new PackageDesk();
            check.due("wish(true, " + pack + ", 19)", desk.wish(true, pack, 19), BAD);
            check.due("wish(false, " + pack + ", 19)", desk.wish(false, pack, 19), BAD);
            check.due("no wish was added", desk.unwish(0), BAD);
        }
        check.due("wish(true, 0, 19)", new PackageDesk().wish(true, 0, 19), 0);
        check.due("wish(true, 4, 19)", new PackageDesk().wish(true, 4, 19), 0);
    }

    private static void wishInAWrongRange(Check check) {
        for (int range : Wrong.RANGES) {
            PackageDesk desk = new PackageDesk();
            check.due("wish(true, 2, " + range + ")", desk.wish(true, 2, range), BAD);
            check.due("wish(false, 2, " + range + ")", desk.wish(false, 2, range), BAD);
            check.due("no wish was added", desk.unwish(0), BAD);
        }
        for (int range : new int[] {11, 19, 99, 12, 89, 55}) {
            check.due("wish(true, 2, " + range + ")", new PackageDesk().wish(true, 2, range), 0);
        }
    }

    private static void aFifthWish(Check check) {
        PackageDesk desk = new PackageDesk();
        for (int i = 0; i < 4; i++) {
            check.due("wish " + i, desk.wish(false, 1, 11), i);
        }
        check.due("a fifth", desk.wish(true, 1, 11), FULL);
        check.due("a fifth", desk.wish(false, 4, 99), FULL);
        check.due("it was not added", desk.solutions(), 1);
        check.due("unwish(3)", desk.unwish(3), 3);
        check.due("room for a fourth", desk.wish(true, 1, 11), 3);
        check.due("a fifth again", desk.wish(false, 1, 11), FULL);
    }

    private static void numberOfAWish(Check check) {
        PackageDesk desk = new PackageDesk();
        check.due("the first", desk.wish(true, 4, 99), 0);
        check.due("the second", desk.wish(true, 4, 99), 1);
        check.due("the third", desk.wish(false, 0, 11), 2);
        check.due("the fourth", desk.wish(true, 4, 99), 3);
        desk.unwish(1);
        check.due("behind the others", desk.wish(true, 4, 99), 3);
        desk.unwish(0);
        desk.unwish(0);
        check.due("behind two", desk.wish(true, 4, 99), 2);
        desk.unwish(2);
        desk.unwish(1);
        desk.unwish(0);
        check.due("the first again", desk.wish(true, 4, 99), 0);
    }

    /** Four wishes to have, each in a range of its own, of which the one for package 3 can't be met. */
    private static PackageDesk fourWishes(int hopeless) {
        PackageDesk desk = new PackageDesk();
        for (int pack = 0; pack < 3; pack++) {
            desk.offer(pack, pack + 5, 0);
        }
        int met = 0;
        for (int i = 0; i < 4; i++) {
            int pack = i == hopeless ? 3 : met++;
            desk.wish(true, pack, 11 * (pack + 5));
        }
        return desk;
    }

    private static void takesAWishOut(Check check) {
        for (int i = 0; i < 4; i++) {
            PackageDesk desk = fourWishes(i);
            check.due("no solution", desk.solutions(), 0);
            check.due("unwish(" + i + ")", desk.unwish(i), 3);
            check.due("a solution", desk.solve(), 3);
            check.plan(desk, "56700");
        }
    }

    /** Blame tells the number of the one wish that can't be met. */
    private static void laterNumbers(Check check) {
        for (int hopeless = 0; hopeless < 4; hopeless++) {
            for (int out = 0; out < 4; out++) {
                PackageDesk desk = fourWishes(hopeless);
                check.due("blame() before", desk.blame(), 1 << hopeless);
                desk.unwish(out);
                int due = out == hopeless ? PackageDesk.NONE : 1 << (out < hopeless ? hopeless - 1 : hopeless);
                check.due("blame() without wish " + out, desk.blame(), due);
            }
        }
        PackageDesk desk = new PackageDesk();
        desk.offer(2, 3, 0);
        desk.wish(false, 0, 19);
        desk.wish(true, 2, 33);
        desk.wish(false, 2, 24);
        desk.unwish(0);
        check.due("to have and to avoid move with package and range", desk.blame(), 3);
        desk.unwish(1);
        check.due("the wish to have is left", desk.solve(), 1);
    }

    private static void noSuchWish(Check check) {
        for (int many = 0; many <= 4; many++) {
            PackageDesk desk = new PackageDesk();
            for (int i = 0; i < many; i++) {
                desk.wish(false, i, 19);
            }
            for (int i : new int[] {-1, many, many + 1, 32, 256, 65536, Integer.MIN_VALUE, Integer.MAX_VALUE}) {
                check.due("unwish(" + i + ") of " + many, desk.unwish(i), BAD);
            }
            check.due("all are there", desk.wish(false, 0, 19), many == 4 ? FULL : many);
        }
        PackageDesk desk = new PackageDesk();
        desk.wish(true, 0, 11);
        check.due("unwish(0)", desk.unwish(0), 0);
        check.due("unwish(0) again", desk.unwish(0), BAD);
    }

    private static void wishesLeft(Check check) {
        for (int first = 0; first < 4; first++) {
            PackageDesk desk = new PackageDesk();
            for (int i = 0; i < 4; i++) {
                desk.wish(false, i, 19);
            }
            check.due("unwish(" + first + ")", desk.unwish(first), 3);
            check.due("unwish(0)", desk.unwish(0), 2);
            check.due("unwish(1)", desk.unwish(1), 1);
            check.due("unwish(0)", desk.unwish(0), 0);
        }
    }
}
