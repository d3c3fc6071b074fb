/** Desks in states that more than one test starts from. */
final class Desks {
    private Desks() {
    }

    /** On a desk without wishes, makes a plan that gives package 0 this version and the others none. */
    static void planFor(PackageDesk desk, int version) {
        desk.offer(0, version, 0);
        desk.wish(true, 0, 11 * version);
        desk.solve();
        desk.unwish(0);
        desk.withdraw(0, version);
    }

    /** A desk that keeps the generations 0 .. last, generation i giving version i of package 0. */
    static PackageDesk keeping(int last) {
        PackageDesk desk = new PackageDesk();
        for (int i = 1; i <= last; i++) {
            planFor(desk, i);
            desk.apply(-1);
        }
        return desk;
    }

    /**
     * A desk whose plan gives these versions, the packages 0 .. 4 as digits. It has no wish, and
     * in the index it has the versions of the plan, without demands.
     */
    static PackageDesk planning(String digits) {
        PackageDesk desk = new PackageDesk();
        plan(desk, digits);
        return desk;
    }

    /** On a desk without wishes and with no version in the index, the same. */
    static void plan(PackageDesk desk, String digits) {
        int[] given = versions(digits);
        for (int pack = 0; pack < 5; pack++) {
            if (given[pack] != 0) {
                desk.offer(pack, given[pack], 0);
            }
        }
        // Four wishes are too few for five packages; the fourth package's need brings the fifth.
        if (given[3] != 0 && given[4] != 0) {
            desk.demand(true, 30 + given[3], 4, 19);
        }
        int wishes = 0;
        for (int pack = 0; pack < 5; pack++) {
            if (given[pack] != 0 && (pack < 4 || given[3] == 0)) {
                desk.wish(true, pack, 19);
                wishes++;
            }
        }
        desk.solve();
        for (int i = 0; i < wishes; i++) {
            desk.unwish(0);
        }
        if (given[3] != 0) {
            desk.withdraw(3, given[3]);
            desk.offer(3, given[3], 0);
        }
    }

    /** Takes out of the index the versions that these digits name. */
    static void withdraw(PackageDesk desk, String digits) {
        int[] given = versions(digits);
        for (int pack = 0; pack < 5; pack++) {
            if (given[pack] != 0) {
                desk.withdraw(pack, given[pack]);
            }
        }
    }

    /** A desk without plan whose newest generation, the current one, gives these versions. */
    static PackageDesk holding(String digits) {
        PackageDesk desk = planning(digits);
        desk.apply(-1);
        withdraw(desk, digits);
        return desk;
    }

    private static int[] versions(String digits) {
        int[] given = new int[5];
        for (int pack = 0; pack < 5; pack++) {
            given[pack] = digits.charAt(pack) - '0';
        }
        return given;
    }
}
