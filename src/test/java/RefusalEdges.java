import java.util.ArrayList;
import java.util.LinkedHashMap;
import java.util.List;
import java.util.Map;

/** Of the section "Terms": the order of the tests, and what changes nothing. */
final class RefusalEdges {
    private static final int BAD = PackageDesk.BAD;
    private static final int EXISTS = PackageDesk.EXISTS;
    private static final int FULL = PackageDesk.FULL;
    private static final int NONE = PackageDesk.NONE;

    private RefusalEdges() {
    }

    static void add(Sentences document) {
        document.section("Terms");
        String order = "In every method the tests are made in the order named";
        document.says(order, RefusalEdges::offerTestsBadFirst);
        document.says(order, RefusalEdges::offerTestsExistsBeforeFull);
        document.says(order, RefusalEdges::withdrawTestsBadBeforeNone);
        document.says(order, RefusalEdges::demandTestsBadBeforeNone);
        document.says(order, RefusalEdges::demandTestsBadBeforeFull);
        document.says(order, RefusalEdges::wishTestsBadBeforeFull);
        document.says(order, RefusalEdges::chosenTestsBadBeforeNone);
        document.says(order, RefusalEdges::lockedTestsBadBeforeNone);
        document.says(order, RefusalEdges::possibleTestsBadFirst);
        document.says(order, RefusalEdges::applyTestsForStepsBeforeTheStop);
        document.says(order, RefusalEdges::versionTestsBadBeforeNone);
        String refused = "A refused call (an answer below 0) changes nothing";
        document.says(refused, RefusalEdges::refusedCallsChangeNothing);
        document.says(refused, RefusalEdges::refusedOfferLeavesThePaths);
        document.says(refused, RefusalEdges::manyRefusedCallsTakeNoRoom);
        document.says("unless said otherwise.", RefusalEdges::solveThatFindsNothing);
        document.says("unless said otherwise.", RefusalEdges::reuseThatFindsNothing);
        document.says("Questions change nothing.", RefusalEdges::questionsChangeNothing);
    }

    private static void offerTestsBadFirst(Check check) {
        PackageDesk desk = new PackageDesk();
        for (int version = 1; version <= 4; version++) {
            desk.offer(0, version, 0);
        }
        for (int paths : Wrong.PATHS) {
            check.due("paths " + paths + " of one that exists", desk.offer(0, 1, paths), BAD);
            check.due("paths " + paths + " of one too many", desk.offer(0, 5, paths), BAD);
        }
        check.due("version 0, when full", desk.offer(0, 0, 0), BAD);
        check.due("version 10, when full", desk.offer(0, 10, 0), BAD);
    }

    private static void offerTestsExistsBeforeFull(Check check) {
        PackageDesk desk = new PackageDesk();
        for (int version = 1; version <= 4; version++) {
            desk.offer(0, version, 0);
        }
        for (int version = 1; version <= 9; version++) {
            check.due("offer(0, " + version + ", 7)", desk.offer(0, version, 7), version <= 4 ? EXISTS : FULL);
        }
    }

    private static void withdrawTestsBadBeforeNone(Check check) {
        for (int pack : Wrong.PACKS) {
            check.due("withdraw(" + pack + ", 1)", new PackageDesk().withdraw(pack, 1), BAD);
        }
        for (int version : Wrong.VERSIONS) {
            check.due("withdraw(0, " + version + ")", new PackageDesk().withdraw(0, version), BAD);
        }
    }

    private static void demandTestsBadBeforeNone(Check check) {
        for (int other : Wrong.PACKS) {
            check.due("on " + other, new PackageDesk().demand(true, 21, other, 19), BAD);
        }
        check.due("on itself", new PackageDesk().demand(true, 21, 2, 19), BAD);
        for (int range : Wrong.RANGES) {
            check.due("in " + range, new PackageDesk().demand(true, 21, 0, range), BAD);
        }
        check.due("all good", new PackageDesk().demand(true, 21, 0, 19), NONE);
    }

    private static PackageDesk threeDemands() {
        PackageDesk desk = new PackageDesk();
        desk.offer(2, 1, 0);
        for (int i = 0; i < 3; i++) {
            desk.demand(false, 21, 0, 19);
        }
        return desk;
    }

    private static void demandTestsBadBeforeFull(Check check) {
        for (int other : Wrong.PACKS) {
            check.due("on " + other, threeDemands().demand(true, 21, other, 19), BAD);
        }
        check.due("on itself", threeDemands().demand(true, 21, 2, 19), BAD);
        for (int range : Wrong.RANGES) {
            check.due("in " + range, threeDemands().demand(true, 21, 0, range), BAD);
        }
        check.due("all good", threeDemands().demand(true, 21, 0, 19), FULL);
        check.due("one not there", threeDemands().demand(true, 22, 0, 19), NONE);
    }

    private static PackageDesk fourWishes() {
        PackageDesk desk = new PackageDesk();
        for (int i = 0; i < 4; i++) {
            desk.wish(false, 0, 19);
        }
        return desk;
    }

    private static void wishTestsBadBeforeFull(Check check) {
        for (int pack : Wrong.PACKS) {
            check.due("on " + pack, fourWishes().wish(true, pack, 19), BAD);
        }
        for (int range : Wrong.RANGES) {
            check.due("in " + range, fourWishes().wish(true, 0, range), BAD);
        }
        check.due("all good", fourWishes().wish(true, 0, 19), FULL);
    }

    private static void chosenTestsBadBeforeNone(Check check) {
        PackageDesk desk = new PackageDesk();
        for (int pack : Wrong.PACKS) {
            check.due("chosen(" + pack + ")", desk.chosen(pack), BAD);
        }
        check.noPlan(desk);
    }

    private static void lockedTestsBadBeforeNone(Check check) {
        PackageDesk desk = new PackageDesk();
        for (int pack : Wrong.PACKS) {
            check.due("locked(" + pack + ")", desk.locked(pack), BAD);
        }
        check.noLock(desk);
    }

    /** Where there is no solution at all, a bad argument still is one. */
    private static void possibleTestsBadFirst(Check check) {
        PackageDesk desk = new PackageDesk();
        desk.wish(true, 0, 11);
        for (int pack : Wrong.PACKS) {
            check.due("possible(" + pack + ", 0)", desk.possible(pack, 0), BAD);
        }
        check.due("possible(0, 10)", desk.possible(0, 10), BAD);
        check.due("possible(0, -1)", desk.possible(0, -1), BAD);
        check.due("possible(0, 9)", desk.possible(0, 9), 0);
    }

    private static void applyTestsForStepsBeforeTheStop(Check check) {
        PackageDesk desk = Desks.keeping(2);
        for (int stop : new int[] {0, 1, -1, Integer.MAX_VALUE, Integer.MIN_VALUE}) {
            check.due("no steps, apply(" + stop + ")", desk.apply(stop), 2);
        }
        for (int stop : new int[] {0, 1, -1, Integer.MAX_VALUE, Integer.MIN_VALUE}) {
            check.due("no plan, apply(" + stop + ")", new PackageDesk().apply(stop), NONE);
        }
    }

    private static void versionTestsBadBeforeNone(Check check) {
        for (int pack : Wrong.PACKS) {
            check.due("version(9, " + pack + ")", new PackageDesk().version(9, pack), BAD);
            check.due("version(-1, " + pack + ")", new PackageDesk().version(-1, pack), BAD);
        }
        check.due("version(9, 0)", new PackageDesk().version(9, 0), NONE);
    }

    /** Much in the index, with three demands of one version, four wishes, a plan with steps, and a lock. */
    private static PackageDesk busy() {
        PackageDesk desk = Desks.keeping(1);
        for (int pack = 0; pack < 5; pack++) {
            desk.offer(pack, 2, 0);
            desk.offer(pack, 4, 1 << pack);
        }
        desk.offer(3, 6, 2);
        desk.offer(3, 8, 4);
        desk.demand(true, 4, 1, 24);
        desk.demand(false, 4, 2, 44);
        desk.demand(true, 4, 4, 29);
        desk.demand(true, 14, 3, 69);
        desk.wish(true, 0, 19);
        desk.wish(false, 2, 44);
        desk.solve();
        desk.lock();
        desk.wish(true, 1, 44);
        desk.wish(false, 4, 99);
        desk.solve();
        return desk;
    }

    /** Six generations, of which the oldest is the current one, and a plan for a seventh. */
    private static PackageDesk sixKept() {
        PackageDesk desk = Desks.keeping(5);
        desk.rollback(0);
        Desks.plan(desk, "60708");
        desk.lock();
        return desk;
    }

    /** Wishes that nothing meets, with a plan and a lock from before. */
    private static PackageDesk hopeless() {
        PackageDesk desk = Desks.planning("01230");
        desk.lock();
        desk.apply(-1);
        Desks.planFor(desk, 5);
        desk.wish(true, 1, 99);
        desk.wish(true, 2, 11);
        return desk;
    }

    /** A lock, but no plan. */
    private static PackageDesk planless() {
        PackageDesk desk = hopeless();
        desk.solve();
        return desk;
    }

    /** Six generations; the plan and the lock are the newest, which is current, and are not in the index. */
    private static PackageDesk settled() {
        PackageDesk desk = Desks.keeping(5);
        desk.lock();
        return desk;
    }

    /** A plan, and steps to it from a generation between others, but no lock. */
    private static PackageDesk lockless() {
        PackageDesk desk = Desks.keeping(3);
        desk.rollback(2);
        Desks.plan(desk, "60708");
        desk.withdraw(2, 7);
        return desk;
    }

    private static Map<String, Twin.Start> starts() {
        Map<String, Twin.Start> starts = new LinkedHashMap<>();
        starts.put("a new desk", PackageDesk::new);
        starts.put("a busy desk", RefusalEdges::busy);
        starts.put("a desk with six kept", RefusalEdges::sixKept);
        starts.put("a hopeless desk", RefusalEdges::hopeless);
        starts.put("a desk with a lock and no plan", RefusalEdges::planless);
        starts.put("a desk with a plan and no lock", RefusalEdges::lockless);
        starts.put("a settled desk", RefusalEdges::settled);
        return starts;
    }

    private static Map<String, Twin.Call> refusedCalls() {
        Map<String, Twin.Call> calls = new LinkedHashMap<>();
        for (int pack : Wrong.PACKS) {
            calls.put("offer(" + pack + ", 3, 0)", desk -> desk.offer(pack, 3, 0));
            calls.put("withdraw(" + pack + ", 4)", desk -> desk.withdraw(pack, 4));
            calls.put("demand(true, 2, " + pack + ", 19)", desk -> desk.demand(true, 2, pack, 19));
            calls.put("wish(true, " + pack + ", 19)", desk -> desk.wish(true, pack, 19));
        }
        for (int version : Wrong.VERSIONS) {
            calls.put("offer(1, " + version + ", 0)", desk -> desk.offer(1, version, 0));
            calls.put("withdraw(1, " + version + ")", desk -> desk.withdraw(1, version));
        }
        for (int paths : Wrong.PATHS) {
            calls.put("offer(1, 3, " + paths + ")", desk -> desk.offer(1, 3, paths));
        }
        calls.put("offer of one that exists", desk -> desk.offer(3, 4, 0));
        calls.put("offer of one that exists, with all paths", desk -> desk.offer(1, 4, 255));
        calls.put("offer of a fifth", desk -> desk.offer(3, 9, 0));
        calls.put("withdraw of one not there", desk -> desk.withdraw(4, 9));
        for (int of : new int[] {-1, -4, 0, 10, 40, 50, 54, Integer.MIN_VALUE, Integer.MAX_VALUE}) {
            calls.put("demand(true, " + of + ", 2, 19)", desk -> desk.demand(true, of, 2, 19));
        }
        for (int range : new int[] {0, 9, 10, 21, 98, 100, 119, -19, Integer.MIN_VALUE, Integer.MAX_VALUE}) {
            calls.put("demand(true, 2, 1, " + range + ")", desk -> desk.demand(true, 2, 1, range));
            calls.put("wish(true, 0, " + range + ")", desk -> desk.wish(true, 0, range));
        }
        calls.put("demand on itself", desk -> desk.demand(true, 2, 0, 19));
        calls.put("demand of one not there", desk -> desk.demand(true, 49, 0, 19));
        calls.put("a fourth demand", desk -> desk.demand(true, 4, 3, 99));
        calls.put("a fifth wish", desk -> desk.wish(true, 4, 99));
        for (int i : new int[] {-1, 4, 5, 32, Integer.MIN_VALUE, Integer.MAX_VALUE}) {
            calls.put("unwish(" + i + ")", desk -> desk.unwish(i));
        }
        calls.put("lock()", PackageDesk::lock);
        for (int stop : new int[] {0, 1, 2, 3}) {
            calls.put("apply(" + stop + ")", desk -> desk.apply(stop));
        }
        for (int generation : new int[] {-1, 7, Integer.MIN_VALUE, Integer.MAX_VALUE}) {
            calls.put("rollback(" + generation + ")", desk -> desk.rollback(generation));
        }
        for (int many : new int[] {0, 7, -1, Integer.MIN_VALUE, Integer.MAX_VALUE}) {
            calls.put("collect(" + many + ")", desk -> desk.collect(many));
        }
        return calls;
    }

    private static void refusedCallsChangeNothing(Check check) {
        Map<String, Twin.Start> starts = starts();
        refusedCalls().forEach((name, call) -> {
            int refusals = 0;
            for (Map.Entry<String, Twin.Start> start : starts.entrySet()) {
                if (call.on(start.getValue().make()) < 0) {
                    refusals++;
                    String changed = Twin.changedBy(start.getValue(), call);
                    check.holds(name + " on " + start.getKey() + " changes nothing: " + changed, changed.isEmpty());
                }
            }
            check.holds(name + " is refused somewhere", refusals > 0);
        });
    }

    private static void refusedOfferLeavesThePaths(Check check) {
        for (int paths = 0; paths <= 255; paths++) {
            PackageDesk desk = new PackageDesk();
            desk.offer(0, 1, 12);
            desk.offer(1, 1, 9);
            desk.offer(2, 1, 4);
            check.due("offer(0, 1, " + paths + ")", desk.offer(0, 1, paths), EXISTS);
            check.due("the paths of before", desk.solutions(), 5);
        }
    }

    private static void manyRefusedCallsTakeNoRoom(Check check) {
        PackageDesk desk = new PackageDesk();
        desk.offer(0, 1, 0);
        for (int i = 0; i < 20; i++) {
            check.due("offer(0, 1, 0)", desk.offer(0, 1, 0), EXISTS);
            check.due("offer(0, 0, 0)", desk.offer(0, 0, 0), BAD);
            check.due("offer(0, 2, 256)", desk.offer(0, 2, 256), BAD);
            check.due("demand(true, 1, 0, 11)", desk.demand(true, 1, 0, 11), BAD);
            check.due("demand(true, 2, 1, 11)", desk.demand(true, 2, 1, 11), NONE);
            check.due("wish(true, 0, 10)", desk.wish(true, 0, 10), BAD);
            check.due("unwish(0)", desk.unwish(0), BAD);
            check.due("withdraw(0, 2)", desk.withdraw(0, 2), NONE);
            check.due("collect(0)", desk.collect(0), BAD);
        }
        check.due("offer", desk.offer(0, 2, 0), 2);
        check.due("demand", desk.demand(false, 1, 1, 11), 1);
        check.due("demand", desk.demand(false, 2, 1, 11), 1);
        check.due("wish", desk.wish(true, 0, 22), 0);
        check.due("solve", desk.solve(), 1);
        for (int i = 0; i < 20; i++) {
            check.due("a crash", desk.apply(0), NONE);
        }
        check.due("apply", desk.apply(1), 1);
        check.kept(desk, 0, 1);
    }

    /** The plan goes, and nothing else. */
    private static void solveThatFindsNothing(Check check) {
        PackageDesk desk = hopeless();
        check.plan(desk, "50000");
        check.due("solve()", desk.solve(), NONE);
        check.noPlan(desk);
        allButThePlanStays(check, desk);
    }

    private static void reuseThatFindsNothing(Check check) {
        PackageDesk desk = hopeless();
        check.plan(desk, "50000");
        check.due("reuse()", desk.reuse(), NONE);
        check.noPlan(desk);
        allButThePlanStays(check, desk);
    }

    private static void allButThePlanStays(Check check, PackageDesk desk) {
        check.lock(desk, "01230");
        check.due("current()", desk.current(), 1);
        check.kept(desk, 0, 1);
        check.generation(desk, 1, "01230");
        check.due("steps()", desk.steps(), NONE);
        check.due("blame()", desk.blame(), 1);
        check.due("unwish(0)", desk.unwish(0), 1);
        check.due("unwish(0)", desk.unwish(0), 0);
        check.due("the index of before", desk.solutions(), 8);
    }

    private static List<Twin.Call> questions() {
        List<Twin.Call> questions = new ArrayList<>();
        questions.add(PackageDesk::solutions);
        questions.add(PackageDesk::blame);
        questions.add(PackageDesk::steps);
        questions.add(PackageDesk::current);
        for (int i = -1; i <= 10; i++) {
            int argument = i;
            questions.add(desk -> desk.chosen(argument));
            questions.add(desk -> desk.locked(argument));
            questions.add(desk -> desk.step(argument));
            questions.add(desk -> desk.possible(3, argument));
            questions.add(desk -> desk.possible(argument, 2));
            questions.add(desk -> desk.version(0, argument));
            questions.add(desk -> desk.version(argument, 1));
        }
        return questions;
    }

    private static void questionsChangeNothing(Check check) {
        starts().forEach((name, start) -> {
            for (Twin.Call question : questions()) {
                String changed = Twin.changedBy(start, question);
                check.holds("one question on " + name + " changes nothing: " + changed, changed.isEmpty());
            }
            String changed = Twin.changedBy(start, desk -> {
                int sum = 0;
                for (Twin.Call question : questions()) {
                    sum += question.on(desk);
                }
                return sum;
            });
            check.holds("all questions on " + name + " change nothing: " + changed, changed.isEmpty());
            int first = 0;
            int second = 0;
            PackageDesk desk = start.make();
            for (Twin.Call question : questions()) {
                first = 31 * first + question.on(desk);
            }
            for (Twin.Call question : questions()) {
                second = 31 * second + question.on(desk);
            }
            check.due("the same questions again, on " + name, second, first);
        });
    }
}
