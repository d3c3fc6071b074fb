import java.util.ArrayList;
import java.util.List;
import java.util.Map;
import java.util.TreeMap;
import java.util.TreeSet;

/**
 * A desk written from the document's words with the Java library, in another
 * way than the program, so that a slip in one of them shows.
 */
final class Model {
    record Demand(boolean need, int other, int lo, int hi) { }

    record Wish(boolean have, int pack, int lo, int hi) { }

    record Version(int paths, List<Demand> demands) { }

    final Map<Integer, Version> index = new TreeMap<>();
    final List<Wish> wishes = new ArrayList<>();
    List<Integer> plan = null;
    List<Integer> lock = null;
    final TreeMap<Integer, List<Integer>> kept = new TreeMap<>(Map.of(0, List.of(0, 0, 0, 0, 0)));
    int current = 0;
    int greatest = 0;

    private static boolean between(int lo, int value, int hi) {
        return lo <= value && value <= hi;
    }

    private static boolean badRange(int range) {
        for (int lo = 1; lo <= 9; lo++) {
            for (int hi = lo; hi <= 9; hi++) {
                if (range == 10 * lo + hi) {
                    return false;
                }
            }
        }
        return true;
    }

    private int versionsOf(int pack) {
        return (int) index.keySet().stream().filter(cell -> cell / 10 == pack).count();
    }

    int offer(int pack, int version, int paths) {
        if (!between(0, pack, 4) || !between(1, version, 9) || !between(0, paths, 255)) {
            return PackageDesk.BAD;
        }
        if (index.containsKey(10 * pack + version)) {
            return PackageDesk.EXISTS;
        }
        if (versionsOf(pack) == 4) {
            return PackageDesk.FULL;
        }
        index.put(10 * pack + version, new Version(paths, new ArrayList<>()));
        return versionsOf(pack);
    }

    int withdraw(int pack, int version) {
        if (!between(0, pack, 4) || !between(1, version, 9)) {
            return PackageDesk.BAD;
        }
        return index.remove(10 * pack + version) == null ? PackageDesk.NONE : versionsOf(pack);
    }

    int demand(boolean need, int of, int other, int range) {
        if (of < 0 || of / 10 > 4 || of % 10 == 0 || !between(0, other, 4) || other == of / 10 || badRange(range)) {
            return PackageDesk.BAD;
        }
        Version version = index.get(of);
        if (version == null) {
            return PackageDesk.NONE;
        }
        if (version.demands.size() == 3) {
            return PackageDesk.FULL;
        }
        version.demands.add(new Demand(need, other, range / 10, range % 10));
        return version.demands.size();
    }

    int wish(boolean have, int pack, int range) {
        if (!between(0, pack, 4) || badRange(range)) {
            return PackageDesk.BAD;
        }
        if (wishes.size() == 4) {
            return PackageDesk.FULL;
        }
        wishes.add(new Wish(have, pack, range / 10, range % 10));
        return wishes.size() - 1;
    }

    int unwish(int i) {
        if (!between(0, i, wishes.size() - 1)) {
            return PackageDesk.BAD;
        }
        wishes.remove(i);
        return wishes.size();
    }

    private boolean meets(List<Integer> choice, Wish wish) {
        return between(wish.lo, choice.get(wish.pack), wish.hi) ? wish.have : !wish.have;
    }

    private boolean sound(List<Integer> choice) {
        for (int x = 0; x < 5; x++) {
            if (choice.get(x) == 0) {
                continue;
            }
            Version mine = index.get(10 * x + choice.get(x));
            for (Demand demand : mine.demands) {
                boolean found = between(demand.lo, choice.get(demand.other), demand.hi);
                if (demand.need && !found || !demand.need && found) {
                    return false;
                }
            }
            for (int y = 0; y < 5; y++) {
                if (y != x && choice.get(y) != 0 && (mine.paths & index.get(10 * y + choice.get(y)).paths) != 0) {
                    return false;
                }
            }
        }
        return true;
    }

    private List<List<Integer>> soundChoices() {
        List<List<Integer>> choices = new ArrayList<>();
        grow(new ArrayList<>(), choices);
        return choices;
    }

    private void grow(List<Integer> start, List<List<Integer>> into) {
        if (start.size() == 5) {
            if (sound(start)) {
                into.add(List.copyOf(start));
            }
            return;
        }
        for (int version = 0; version <= 9; version++) {
            if (version == 0 || index.containsKey(10 * start.size() + version)) {
                start.add(version);
                grow(start, into);
                start.remove(start.size() - 1);
            }
        }
    }

    List<List<Integer>> solutions() {
        List<List<Integer>> found = soundChoices();
        found.removeIf(choice -> !wishes.stream().allMatch(wish -> meets(choice, wish)));
        return found;
    }

    private static int compare(List<Integer> a, List<Integer> b) {
        for (int pack = 0; pack < 5; pack++) {
            int x = a.get(pack) == 0 ? 10 : a.get(pack);
            int y = b.get(pack) == 0 ? 10 : b.get(pack);
            if (x != y) {
                return Integer.compare(x, y);
            }
        }
        return 0;
    }

    private static int many(List<Integer> choice) {
        return (int) choice.stream().filter(version -> version != 0).count();
    }

    int solve() {
        plan = solutions().stream().max(Model::compare).orElse(null);
        return plan == null ? PackageDesk.NONE : many(plan);
    }

    int given(List<Integer> choice, int pack) {
        return !between(0, pack, 4) ? PackageDesk.BAD : choice == null ? PackageDesk.NONE : choice.get(pack);
    }

    int possible(int pack, int version) {
        if (!between(0, pack, 4) || !between(0, version, 9)) {
            return PackageDesk.BAD;
        }
        return solutions().stream().anyMatch(choice -> choice.get(pack) == version) ? 1 : 0;
    }

    int blame() {
        List<List<Integer>> choices = soundChoices();
        for (int size = 0; size <= wishes.size(); size++) {
            for (int set = 0; set < 1 << wishes.size(); set++) {
                List<Wish> some = new ArrayList<>();
                for (int i = 0; i < wishes.size(); i++) {
                    if ((set & 1 << i) != 0) {
                        some.add(wishes.get(i));
                    }
                }
                if (some.size() == size && choices.stream().noneMatch(
                        choice -> some.stream().allMatch(wish -> meets(choice, wish)))) {
                    return set;
                }
            }
        }
        return PackageDesk.NONE;
    }

    int lock() {
        if (plan == null) {
            return PackageDesk.NONE;
        }
        lock = plan;
        return many(lock);
    }

    int reuse() {
        if (lock != null && solutions().contains(lock)) {
            plan = lock;
            return 10;
        }
        return solve();
    }

    private boolean rests(int x, int y) {
        Version version = index.get(10 * x + plan.get(x));
        return plan.get(x) != 0 && plan.get(y) != 0 && version != null
            && version.demands.stream().anyMatch(demand -> demand.need && demand.other == y);
    }

    private TreeSet<Integer> buildsOn(int x) {
        TreeSet<Integer> found = new TreeSet<>();
        List<Integer> open = new ArrayList<>(List.of(x));
        while (!open.isEmpty()) {
            int from = open.remove(open.size() - 1);
            for (int y = 0; y < 5; y++) {
                if (rests(from, y) && found.add(y)) {
                    open.add(y);
                }
            }
        }
        return found;
    }

    private List<Integer> order() {
        List<TreeSet<Integer>> groups = new ArrayList<>();
        for (int x = 0; x < 5; x++) {
            TreeSet<Integer> group = new TreeSet<>(List.of(x));
            for (int y = 0; y < 5; y++) {
                if (buildsOn(x).contains(y) && buildsOn(y).contains(x)) {
                    group.add(y);
                }
            }
            if (plan.get(x) != 0 && !groups.contains(group)) {
                groups.add(group);
            }
        }
        List<Integer> placed = new ArrayList<>();
        while (!groups.isEmpty()) {
            TreeSet<Integer> next = groups.stream().filter(group -> group.stream().allMatch(
                    x -> buildsOn(x).stream().allMatch(y -> group.contains(y) || placed.contains(y))))
                .min((a, b) -> a.first() - b.first()).orElseThrow();
            placed.addAll(next);
            groups.remove(next);
        }
        return placed;
    }

    List<Integer> steps() {
        List<Integer> before = kept.get(current);
        List<Integer> found = new ArrayList<>();
        for (int x = 4; x >= 0; x--) {
            if (before.get(x) != 0 && !before.get(x).equals(plan.get(x))) {
                found.add(100 + 10 * x + before.get(x));
            }
        }
        for (int x : order()) {
            if (!before.get(x).equals(plan.get(x))) {
                found.add(200 + 10 * x + plan.get(x));
            }
        }
        return found;
    }

    int step(int i) {
        return plan == null || !between(0, i, steps().size() - 1) ? PackageDesk.NONE : steps().get(i);
    }

    int apply(int stop) {
        if (plan == null) {
            return PackageDesk.NONE;
        }
        int many = steps().size();
        if (many == 0) {
            return current;
        }
        if (between(0, stop, many - 1)) {
            return PackageDesk.NONE;
        }
        if (kept.size() == 6) {
            kept.remove(kept.keySet().stream().filter(number -> number != current).findFirst().orElseThrow());
        }
        greatest++;
        kept.put(greatest, plan);
        current = greatest;
        return current;
    }

    int version(int generation, int pack) {
        return given(kept.get(generation), pack);
    }

    int rollback(int generation) {
        if (!kept.containsKey(generation)) {
            return PackageDesk.NONE;
        }
        int other = 0;
        for (int pack = 0; pack < 5; pack++) {
            other += kept.get(generation).get(pack).equals(kept.get(current).get(pack)) ? 0 : 1;
        }
        current = generation;
        return other;
    }

    int collect(int many) {
        if (!between(1, many, 6)) {
            return PackageDesk.BAD;
        }
        int before = kept.size();
        List<Integer> most = kept.descendingKeySet().stream().limit(many).toList();
        kept.keySet().removeIf(number -> number != current && !most.contains(number));
        return before - kept.size();
    }
}
