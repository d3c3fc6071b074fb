import java.util.ArrayList;
import java.util.List;
import java.util.Map;
import java.util.TreeMap;
import java.util.TreeSet;

/**
 * Long runs of calls on a desk and on a model of it. The model is written from
 * the document's words with the Java library, in another way than the program,
 * so that a slip in one of them shows.
 */
public final class ModelTest {
    private static final int RUNS = 600;
    private static final int CALLS = 512;

    public static void main(String[] args) {
        for (int run = 0; run < RUNS; run++) {
            if (!new Run(run).agrees()) {
                System.exit(1);
            }
        }
        System.out.println(RUNS + " runs of " + CALLS + " calls are as due");
    }

    /** One run; the same number always gives the same calls. */
    private static final class Run {
        private final PackageDesk desk = new PackageDesk();
        private final Model model = new Model();
        private final int number;
        private final int packs;
        private final boolean demanding;
        private long seed;
        private String told;

        Run(int number) {
            this.number = number;
            seed = number * 7919L + 17;
            packs = 2 + below(4);
            demanding = below(3) > 0;
        }

        private int below(int bound) {
            seed = seed * 6364136223846793005L + 1442695040888963407L;
            return (int) ((seed >>> 33) % bound);
        }

        private int odd() {
            int[] values = {-1, 5, 9, 10, 50, 100, 256, -20, Integer.MIN_VALUE, Integer.MAX_VALUE};
            return values[below(values.length)];
        }

        private int pack() {
            return below(40) == 0 ? odd() : below(packs);
        }

        private int version() {
            return below(40) == 0 ? odd() : 1 + below(below(3) == 0 ? 9 : 5);
        }

        private int range() {
            if (below(30) == 0) {
                return below(2) == 0 ? odd() : below(130) - 15;
            }
            int lo = 1 + below(6);
            return 10 * lo + lo + below(10 - lo);
        }

        private int paths() {
            return below(40) == 0 ? odd() : below(4) != 0 ? 0 : 1 << below(8) | 1 << below(8);
        }

        private int of() {
            if (below(40) == 0) {
                return odd();
            }
            List<Integer> cells = new ArrayList<>(model.index.keySet());
            return cells.isEmpty() || below(8) == 0 ? 10 * below(packs) + below(10) : cells.get(below(cells.size()));
        }

        private int generation() {
            return below(30) == 0 ? odd() : Math.max(0, model.greatest - below(8));
        }

        boolean agrees() {
            for (int i = 0; i < CALLS; i++) {
                // The index is filled first, so that there is something to choose from.
                int kind = i < 40 ? below(demanding ? 18 : 12) : below(72);
                boolean same = kind < 32 ? change(kind) : kind < 52 ? choose(kind) : carryOut(kind);
                if (!same) {
                    System.out.println("run " + number + ", call " + i + ": " + told);
                    return false;
                }
            }
            return true;
        }

        private boolean compare(String call, int got, int want) {
            told = call + " answered " + got + ", due is " + want;
            return got == want;
        }

        /** A call that changes the index or the wishes. */
        private boolean change(int kind) {
            boolean flag = below(3) != 0;
            int a = kind < 12 ? pack() : kind < 22 ? of() : kind < 28 ? pack() : below(10) == 0 ? odd() : below(5);
            if (kind < 12) {
                int version = version();
                int paths = paths();
                return compare("offer(" + a + ", " + version + ", " + paths + ")",
                    desk.offer(a, version, paths), model.offer(a, version, paths));
            }
            if (kind < 18) {
                int other = pack();
                int range = range();
                return compare("demand(" + flag + ", " + a + ", " + other + ", " + range + ")",
                    desk.demand(flag, a, other, range), model.demand(flag, a, other, range));
            }
            if (kind < 22) {
                return compare("withdraw(" + a / 10 + ", " + a % 10 + ")",
                    desk.withdraw(a / 10, a % 10), model.withdraw(a / 10, a % 10));
            }
            if (kind < 28) {
                int range = range();
                return compare("wish(" + flag + ", " + a + ", " + range + ")",
                    desk.wish(flag, a, range), model.wish(flag, a, range));
            }
            return compare("unwish(" + a + ")", desk.unwish(a), model.unwish(a));
        }

        /** A call about solutions, the plan or the lock. */
        private boolean choose(int kind) {
            int pack = pack();
            if (kind < 38) {
                return compare("solve()", desk.solve(), model.solve());
            }
            if (kind < 40) {
                return compare("chosen(" + pack + ")", desk.chosen(pack), model.given(model.plan, pack));
            }
            if (kind < 42) {
                return compare("solutions()", desk.solutions(), model.solutions().size());
            }
            if (kind < 44) {
                int version = below(4) == 0 ? 0 : version();
                return compare("possible(" + pack + ", " + version + ")",
                    desk.possible(pack, version), model.possible(pack, version));
            }
            if (kind < 46) {
                return compare("blame()", desk.blame(), model.blame());
            }
            if (kind < 47) {
                return compare("lock()", desk.lock(), model.lock());
            }
            if (kind < 48) {
                return compare("locked(" + pack + ")", desk.locked(pack), model.given(model.lock, pack));
            }
            return compare("reuse()", desk.reuse(), model.reuse());
        }

        /** A call about steps or generations. */
        private boolean carryOut(int kind) {
            if (kind < 54) {
                return compare("steps()", desk.steps(), model.plan == null ? PackageDesk.NONE : model.steps().size());
            }
            if (kind < 58) {
                int i = below(20) == 0 ? odd() : below(8);
                return compare("step(" + i + ")", desk.step(i), model.step(i));
            }
            if (kind < 64) {
                int stop = below(3) == 0 ? below(6) : -1;
                return compare("apply(" + stop + ")", desk.apply(stop), model.apply(stop));
            }
            if (kind < 65) {
                return compare("current()", desk.current(), model.current);
            }
            int generation = generation();
            if (kind < 68) {
                int pack = pack();
                return compare("version(" + generation + ", " + pack + ")",
                    desk.version(generation, pack), model.version(generation, pack));
            }
            if (kind < 71) {
                return compare("rollback(" + generation + ")", desk.rollback(generation), model.rollback(generation));
            }
            int many = below(10) == 0 ? odd() : 1 + below(7);
            return compare("collect(" + many + ")", desk.collect(many), model.collect(many));
        }
    }

    private record Demand(boolean need, int other, int lo, int hi) { }

    private record Wish(boolean have, int pack, int lo, int hi) { }

    private record Version(int paths, List<Demand> demands) { }

    private static final class Model {
        final Map<Integer, Version> index = new TreeMap<>();
        final List<Wish> wishes = new ArrayList<>();
        List<Integer> plan = null;
        List<Integer> lock = null;
        final TreeMap<Integer, List<Integer>> kept = new TreeMap<>(Map.of(0, List.of(0, 0, 0, 0, 0)));
        int current = 0;
        int greatest = 0;

        private static boolean between(int lo, int value, int hi) {
            return lo <= value && value <= hi;
        }

        private static boolean badRange(int range) {
            for (int lo = 1; lo <= 9; lo++) {
                for (int hi = lo; hi <= 9; hi++) {
                    if (range == 10 * lo + hi) {
                        return false;
                    }
                }
            }
            return true;
        }

        private int versionsOf(int pack) {
            return (int) index.keySet().stream().filter(cell -> cell / 10 == pack).count();
        }

        int offer(int pack, int version, int paths) {
            if (!between(0, pack, 4) || !between(1, version, 9) || !between(0, paths, 255)) {
                return PackageDesk.BAD;
            }
            if (index.containsKey(10 * pack + version)) {
                return PackageDesk.EXISTS;
            }
            if (versionsOf(pack) == 4) {
                return PackageDesk.FULL;
            }
            index.put(10 * pack + version, new Version(paths, new ArrayList<>()));
            return versionsOf(pack);
        }

        int withdraw(int pack, int version) {
            if (!between(0, pack, 4) || !between(1, version, 9)) {
                return PackageDesk.BAD;
            }
            return index.remove(10 * pack + version) == null ? PackageDesk.NONE : versionsOf(pack);
        }

        int demand(boolean need, int of, int other, int range) {
            if (of < 0 || of / 10 > 4 || of % 10 == 0 || !between(0, other, 4) || other == of / 10 || badRange(range)) {
                return PackageDesk.BAD;
            }
            Version version = index.get(of);
            if (version == null) {
                return PackageDesk.NONE;
            }
            if (version.demands.size() == 3) {
                return PackageDesk.FULL;
            }
            version.demands.add(new Demand(need, other, range / 10, range % 10));
            return version.demands.size();
        }

        int wish(boolean have, int pack, int range) {
            if (!between(0, pack, 4) || badRange(range)) {
                return PackageDesk.BAD;
            }
            if (wishes.size() == 4) {
                return PackageDesk.FULL;
            }
            wishes.add(new Wish(have, pack, range / 10, range % 10));
            return wishes.size() - 1;
        }

        int unwish(int i) {
            if (!between(0, i, wishes.size() - 1)) {
                return PackageDesk.BAD;
            }
            wishes.remove(i);
            return wishes.size();
        }

        private boolean meets(List<Integer> choice, Wish wish) {
            return between(wish.lo, choice.get(wish.pack), wish.hi) ? wish.have : !wish.have;
        }

        private boolean sound(List<Integer> choice) {
            for (int x = 0; x < 5; x++) {
                if (choice.get(x) == 0) {
                    continue;
                }
                Version mine = index.get(10 * x + choice.get(x));
                for (Demand demand : mine.demands) {
                    boolean found = between(demand.lo, choice.get(demand.other), demand.hi);
                    if (demand.need && !found || !demand.need && found) {
                        return false;
                    }
                }
                for (int y = 0; y < 5; y++) {
                    if (y != x && choice.get(y) != 0 && (mine.paths & index.get(10 * y + choice.get(y)).paths) != 0) {
                        return false;
                    }
                }
            }
            return true;
        }

        private List<List<Integer>> soundChoices() {
            List<List<Integer>> choices = new ArrayList<>();
            grow(new ArrayList<>(), choices);
            return choices;
        }

        private void grow(List<Integer> start, List<List<Integer>> into) {
            if (start.size() == 5) {
                if (sound(start)) {
                    into.add(List.copyOf(start));
                }
                return;
            }
            for (int version = 0; version <= 9; version++) {
                if (version == 0 || index.containsKey(10 * start.size() + version)) {
                    start.add(version);
                    grow(start, into);
                    start.remove(start.size() - 1);
                }
            }
        }

        List<List<Integer>> solutions() {
            List<List<Integer>> found = soundChoices();
            found.removeIf(choice -> !wishes.stream().allMatch(wish -> meets(choice, wish)));
            return found;
        }

        private static int compare(List<Integer> a, List<Integer> b) {
            for (int pack = 0; pack < 5; pack++) {
                int x = a.get(pack) == 0 ? 10 : a.get(pack);
                int y = b.get(pack) == 0 ? 10 : b.get(pack);
                if (x != y) {
                    return Integer.compare(x, y);
                }
            }
            return 0;
        }

        private static int many(List<Integer> choice) {
            return (int) choice.stream().filter(version -> version != 0).count();
        }

        int solve() {
            plan = solutions().stream().max(Model::compare).orElse(null);
            return plan == null ? PackageDesk.NONE : many(plan);
        }

        int given(List<Integer> choice, int pack) {
            return !between(0, pack, 4) ? PackageDesk.BAD : choice == null ? PackageDesk.NONE : choice.get(pack);
        }

        int possible(int pack, int version) {
            if (!between(0, pack, 4) || !between(0, version, 9)) {
                return PackageDesk.BAD;
            }
            return solutions().stream().anyMatch(choice -> choice.get(pack) == version) ? 1 : 0;
        }

        int blame() {
            List<List<Integer>> choices = soundChoices();
            for (int size = 0; size <= wishes.size(); size++) {
                for (int set = 0; set < 1 << wishes.size(); set++) {
                    List<Wish> some = new ArrayList<>();
                    for (int i = 0; i < wishes.size(); i++) {
                        if ((set & 1 << i) != 0) {
                            some.add(wishes.get(i));
                        }
                    }
                    if (some.size() == size && choices.stream().noneMatch(
                            choice -> some.stream().allMatch(wish -> meets(choice, wish)))) {
                        return set;
                    }
                }
            }
            return PackageDesk.NONE;
        }

        int lock() {
            if (plan == null) {
                return PackageDesk.NONE;
            }
            lock = plan;
            return many(lock);
        }

        int reuse() {
            if (lock != null && solutions().contains(lock)) {
                plan = lock;
                return 10;
            }
            return solve();
        }

        private boolean rests(int x, int y) {
            Version version = index.get(10 * x + plan.get(x));
            return plan.get(x) != 0 && plan.get(y) != 0 && version != null
                && version.demands.stream().anyMatch(demand -> demand.need && demand.other == y);
        }

        private TreeSet<Integer> buildsOn(int x) {
            TreeSet<Integer> found = new TreeSet<>();
            List<Integer> open = new ArrayList<>(List.of(x));
            while (!open.isEmpty()) {
                int from = open.remove(open.size() - 1);
                for (int y = 0; y < 5; y++) {
                    if (rests(from, y) && found.add(y)) {
                        open.add(y);
                    }
                }
            }
            return found;
        }

        private List<Integer> order() {
            List<TreeSet<Integer>> groups = new ArrayList<>();
            for (int x = 0; x < 5; x++) {
                TreeSet<Integer> group = new TreeSet<>(List.of(x));
                for (int y = 0; y < 5; y++) {
                    if (buildsOn(x).contains(y) && buildsOn(y).contains(x)) {
                        group.add(y);
                    }
                }
                if (plan.get(x) != 0 && !groups.contains(group)) {
                    groups.add(group);
                }
            }
            List<Integer> placed = new ArrayList<>();
            while (!groups.isEmpty()) {
                TreeSet<Integer> next = groups.stream().filter(group -> group.stream().allMatch(
                        x -> buildsOn(x).stream().allMatch(y -> group.contains(y) || placed.contains(y))))
                    .min((a, b) -> a.first() - b.first()).orElseThrow();
                placed.addAll(next);
                groups.remove(next);
            }
            return placed;
        }

        List<Integer> steps() {
            List<Integer> before = kept.get(current);
            List<Integer> found = new ArrayList<>();
            for (int x = 4; x >= 0; x--) {
                if (before.get(x) != 0 && !before.get(x).equals(plan.get(x))) {
                    found.add(100 + 10 * x + before.get(x));
                }
            }
            for (int x : order()) {
                if (!before.get(x).equals(plan.get(x))) {
                    found.add(200 + 10 * x + plan.get(x));
                }
            }
            return found;
        }

        int step(int i) {
            return plan == null || !between(0, i, steps().size() - 1) ? PackageDesk.NONE : steps().get(i);
        }

        int apply(int stop) {
            if (plan == null) {
                return PackageDesk.NONE;
            }
            int many = steps().size();
            if (many == 0) {
                return current;
            }
            if (between(0, stop, many - 1)) {
                return PackageDesk.NONE;
            }
            if (kept.size() == 6) {
                kept.remove(kept.keySet().stream().filter(number -> number != current).findFirst().orElseThrow());
            }
            greatest++;
            kept.put(greatest, plan);
            current = greatest;
            return current;
        }

        int version(int generation, int pack) {
            return given(kept.get(generation), pack);
        }

        int rollback(int generation) {
            if (!kept.containsKey(generation)) {
                return PackageDesk.NONE;
            }
            int other = 0;
            for (int pack = 0; pack < 5; pack++) {
                other += kept.get(generation).get(pack).equals(kept.get(current).get(pack)) ? 0 : 1;
            }
            current = generation;
            return other;
        }

        int collect(int many) {
            if (!between(1, many, 6)) {
                return PackageDesk.BAD;
            }
            int before = kept.size();
            List<Integer> most = kept.descendingKeySet().stream().limit(many).toList();
            kept.keySet().removeIf(number -> number != current && !most.contains(number));
            return before - kept.size();
        }
    }
}
