import java.util.ArrayList;
import java.util.List;

/** Long runs of calls on a desk and on the model of it. */
public final class ModelTest {
    private static final int RUNS = 600;
    private static final int CALLS = 512;

    public static void main(String[] args) {
        for (int run = 0; run < RUNS; run++) {
            if (!new Run(run).agrees()) {
                System.exit(1);
            }
        }
        System.out.println(RUNS + " runs of " + CALLS + " calls are as due");
    }

    /** One run; the same number always gives the same calls. */
    private static final class Run {
        private final PackageDesk desk = new PackageDesk();
        private final Model model = new Model();
        private final int number;
        private final int packs;
        private final boolean demanding;
        private long seed;
        private String told;

        Run(int number) {
            this.number = number;
            seed = number * 7919L + 17;
            packs = 2 + below(4);
            demanding = below(3) > 0;
        }

        private int below(int bound) {
            seed = seed * 6364136223846793005L + 1442695040888963407L;
            return (int) ((seed >>> 33) % bound);
        }

        private int odd() {
            int[] values = {-1, 5, 9, 10, 50, 100, 256, -20, Integer.MIN_VALUE, Integer.MAX_VALUE};
            return values[below(values.length)];
        }

        private int pack() {
            return below(40) == 0 ? odd() : below(packs);
        }

        private int version() {
            return below(40) == 0 ? odd() : 1 + below(below(3) == 0 ? 9 : 5);
        }

        private int range() {
            if (below(30) == 0) {
                return below(2) == 0 ? odd() : below(130) - 15;
            }
            int lo = 1 + below(6);
            return 10 * lo + lo + below(10 - lo);
        }

        private int paths() {
            return below(40) == 0 ? odd() : below(4) != 0 ? 0 : 1 << below(8) | 1 << below(8);
        }

        private int of() {
            if (below(40) == 0) {
                return odd();
            }
            List<Integer> cells = new ArrayList<>(model.index.keySet());
            return cells.isEmpty() || below(8) == 0 ? 10 * below(packs) + below(10) : cells.get(below(cells.size()));
        }

        private int generation() {
            return below(30) == 0 ? odd() : Math.max(0, model.greatest - below(8));
        }

        boolean agrees() {
            for (int i = 0; i < CALLS; i++) {
                // The index is filled first, so that there is something to choose from.
                int kind = i < 40 ? below(demanding ? 18 : 12) : below(72);
                boolean same = kind < 32 ? change(kind) : kind < 52 ? choose(kind) : carryOut(kind);
                if (!same) {
                    System.out.println("run " + number + ", call " + i + ": " + told);
                    return false;
                }
            }
            return true;
        }

        private boolean compare(String call, int got, int want) {
            told = call + " answered " + got + ", due is " + want;
            return got == want;
        }

        /** A call that changes the index or the wishes. */
        private boolean change(int kind) {
            boolean flag = below(3) != 0;
            int a = kind < 12 ? pack() : kind < 22 ? of() : kind < 28 ? pack() : below(10) == 0 ? odd() : below(5);
            if (kind < 12) {
                int version = version();
                int paths = paths();
                return compare("offer(" + a + ", " + version + ", " + paths + ")",
                    desk.offer(a, version, paths), model.offer(a, version, paths));
            }
            if (kind < 18) {
                int other = pack();
                int range = range();
                return compare("demand(" + flag + ", " + a + ", " + other + ", " + range + ")",
                    desk.demand(flag, a, other, range), model.demand(flag, a, other, range));
            }
            if (kind < 22) {
                return compare("withdraw(" + a / 10 + ", " + a % 10 + ")",
                    desk.withdraw(a / 10, a % 10), model.withdraw(a / 10, a % 10));
            }
            if (kind < 28) {
                int range = range();
                return compare("wish(" + flag + ", " + a + ", " + range + ")",
                    desk.wish(flag, a, range), model.wish(flag, a, range));
            }
            return compare("unwish(" + a + ")", desk.unwish(a), model.unwish(a));
        }

        /** A call about solutions, the plan or the lock. */
        private boolean choose(int kind) {
            int pack = pack();
            if (kind < 38) {
                return compare("solve()", desk.solve(), model.solve());
            }
            if (kind < 40) {
                return compare("chosen(" + pack + ")", desk.chosen(pack), model.given(model.plan, pack));
            }
            if (kind < 42) {
                return compare("solutions()", desk.solutions(), model.solutions().size());
            }
            if (kind < 44) {
                int version = below(4) == 0 ? 0 : version();
                return compare("possible(" + pack + ", " + version + ")",
                    desk.possible(pack, version), model.possible(pack, version));
            }
            if (kind < 46) {
                return compare("blame()", desk.blame(), model.blame());
            }
            if (kind < 47) {
                return compare("lock()", desk.lock(), model.lock());
            }
            if (kind < 48) {
                return compare("locked(" + pack + ")", desk.locked(pack), model.given(model.lock, pack));
            }
            return compare("reuse()", desk.reuse(), model.reuse());
        }

        /** A call about steps or generations. */
        private boolean carryOut(int kind) {
            if (kind < 54) {
                return compare("steps()", desk.steps(), model.plan == null ? PackageDesk.NONE : model.steps().size());
            }
            if (kind < 58) {
                int i = below(20) == 0 ? odd() : below(8);
                return compare("step(" + i + ")", desk.step(i), model.step(i));
            }
            if (kind < 64) {
                int stop = below(3) == 0 ? below(6) : -1;
                return compare("apply(" + stop + ")", desk.apply(stop), model.apply(stop));
            }
            if (kind < 65) {
                return compare("current()", desk.current(), model.current);
            }
            int generation = generation();
            if (kind < 68) {
                int pack = pack();
                return compare("version(" + generation + ", " + pack + ")",
                    desk.version(generation, pack), model.version(generation, pack));
            }
            if (kind < 71) {
                return compare("rollback(" + generation + ")", desk.rollback(generation), model.rollback(generation));
            }
            int many = below(10) == 0 ? odd() : 1 + below(7);
            return compare("collect(" + many + ")", desk.collect(many), model.collect(many));
        }
    }
}
