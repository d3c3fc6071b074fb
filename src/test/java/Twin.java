import java.util.ArrayList;
import java.util.List;

/**
 * Tells whether calls have changed a desk: all that can be found out about it
 * is set beside what is found out about a twin that was spared these calls.
 */
final class Twin {
    interface Start {
        PackageDesk make();
    }

    interface Call {
        int on(PackageDesk desk);
    }

    private Twin() {
    }

    /** What differs after the call, the call's own answer aside; empty if nothing does. */
    static String changedBy(Start start, Call call) {
        PackageDesk used = start.make();
        call.on(used);
        List<String> after = allAbout(used);
        List<String> spared = allAbout(start.make());
        for (int i = 0; i < after.size(); i++) {
            if (!after.get(i).equals(spared.get(i))) {
                return after.get(i) + " and not " + spared.get(i);
            }
        }
        return "";
    }

    /** All questions first; then calls that show by their answers what no question tells. */
    private static List<String> allAbout(PackageDesk desk) {
        List<String> found = new ArrayList<>();
        askAll(desk, found);
        tryGenerations(desk, found);
        tryPlanAndLock(desk, found);
        tryWishes(desk, found);
        tryIndex(desk, found);
        return found;
    }

    private static void askAll(PackageDesk desk, List<String> found) {
        for (int pack = 0; pack < 5; pack++) {
            found.add("chosen(" + pack + ") = " + desk.chosen(pack));
            found.add("locked(" + pack + ") = " + desk.locked(pack));
            for (int generation = 0; generation <= 6; generation++) {
                found.add("version(" + generation + ", " + pack + ") = " + desk.version(generation, pack));
            }
        }
        found.add("solutions() = " + desk.solutions());
        found.add("blame() = " + desk.blame());
        found.add("current() = " + desk.current());
        found.add("steps() = " + desk.steps());
        for (int i = 0; i < 10; i++) {
            found.add("step(" + i + ") = " + desk.step(i));
        }
        for (int version = 0; version <= 9; version++) {
            for (int pack = 0; pack < 5; pack++) {
                found.add("possible(" + pack + ", " + version + ") = " + desk.possible(pack, version));
            }
        }
    }

    private static void tryGenerations(PackageDesk desk, List<String> found) {
        found.add("apply(-1) = " + desk.apply(-1));
        found.add("rollback(0) = " + desk.rollback(0));
        found.add("then apply(-1) = " + desk.apply(-1));
        found.add("collect(2) = " + desk.collect(2));
    }

    private static void tryPlanAndLock(PackageDesk desk, List<String> found) {
        found.add("reuse() = " + desk.reuse());
        for (int pack = 0; pack < 5; pack++) {
            found.add("then chosen(" + pack + ") = " + desk.chosen(pack));
        }
    }

    private static void tryWishes(PackageDesk desk, List<String> found) {
        for (int i = 0; i < 4; i++) {
            found.add("unwish(0) = " + desk.unwish(0));
            found.add("then solutions() = " + desk.solutions());
            found.add("and blame() = " + desk.blame());
        }
        found.add("wish(true, 0, 19) = " + desk.wish(true, 0, 19));
    }

    private static void tryIndex(PackageDesk desk, List<String> found) {
        for (int cell = 0; cell < 50; cell++) {
            if (cell % 10 != 0) {
                String of = cell / 10 + ", " + cell % 10;
                found.add("demand of " + of + " = " + desk.demand(false, cell, cell / 10 == 0 ? 1 : 0, 19));
                found.add("withdraw(" + of + ") = " + desk.withdraw(cell / 10, cell % 10));
            }
        }
    }
}
