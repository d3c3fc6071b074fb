import java.util.ArrayList;
import java.util.List;
import java.util.Random;

/** The promises 15 and 16: steps, step. */
final class StepsEdges {
    private static final int NONE = PackageDesk.NONE;

    private StepsEdges() {
    }

    static void add(Sentences document) {
        document.section("Promise 15: steps");
        document.says("How many STEPS lead from the current generation to the plan;", StepsEdges::noStepsToTheSame);
        document.says("How many STEPS lead from the current generation to the plan;", StepsEdges::tenSteps);
        document.says("How many STEPS lead from the current generation to the plan;", StepsEdges::currentNotNewest);
        document.says("NONE if there is no plan.", StepsEdges::stepsWithoutPlan);
        document.says("For every package that has a version in the current generation and not the same one in the"
            + " plan, there is a step that takes this version away;", StepsEdges::takenAway);
        document.says("these come first, the greatest package first.", StepsEdges::takenAwayFirst);
        document.says("For every package that has a version in the plan and not the same one in the current"
            + " generation, there is a step that puts it in place.", StepsEdges::putInPlace);
        document.says("THE ORDER of these is as follows.", StepsEdges::withoutNeeds);
        String rests = "Of the packages with a version in the plan, x RESTS ON y, another one with a version in the"
            + " plan, if the index has x's version of the plan, and this has a need on y;";
        document.says(rests, StepsEdges::everyPairRests);
        document.says(rests, StepsEdges::restsOnOneWithoutVersion);
        document.says(rests, StepsEdges::needsOfAVersionThatHasGone);
        document.says(rests, StepsEdges::needsOnAVersionThatHasGone);
        document.says(rests, StepsEdges::needsOfAnotherVersion);
        document.says(rests, StepsEdges::clashesDoNotRest);
        document.says(rests, StepsEdges::everyRangeRests);
        document.says(rests, StepsEdges::restsOnOneThatStays);
        document.says(rests, StepsEdges::needsAmongAllOfThePlan);
        String builds = "and x BUILDS ON y if it rests on it, or rests on one that builds on y.";
        document.says(builds, StepsEdges::everyChain);
        document.says(builds, StepsEdges::chainThroughOneThatStays);
        document.says(builds, StepsEdges::chainThroughSomeThatStay);
        document.says(builds, StepsEdges::noChainThroughOneWithoutVersion);
        document.says(builds, StepsEdges::longWayRound);
        document.says("Two packages that build on each other are in one GROUP", StepsEdges::everyRing);
        document.says(", and every package is in a group with itself.", StepsEdges::groupsOfOne);
        String next = "The groups come one after the other: each time, of those groups all of whose members build"
            + " only on members of the group itself and of groups that came before, the one with the least package;";
        document.says(next, StepsEdges::groupsWait);
        document.says(next, StepsEdges::leastOfTheReady);
        document.says(next, StepsEdges::leastPackageStays);
        document.says(next, StepsEdges::onesThatStayWaitToo);
        document.says(next, StepsEdges::allNeedsOfFour);
        document.says(next, StepsEdges::manyNeedsOfFive);
        document.says("the members of a group come with the least package first.", StepsEdges::membersOfAGroup);

        document.section("Promise 16: step");
        document.says("Step i (0 the first): 100 + 10 * package + version for a step that takes a version away",
            StepsEdges::codesOfTakingAway);
        document.says(", 200 + 10 * package + version for one that puts a version in place.",
            StepsEdges::codesOfPutting);
        document.says("There is no plan", StepsEdges::stepWithoutPlan);
        document.says(", or no such step: NONE.", StepsEdges::noSuchStep);
    }

    /** A desk whose current generation and whose plan give these versions. */
    private static PackageDesk between(String current, String plan) {
        PackageDesk desk = Desks.holding(current);
        Desks.plan(desk, plan);
        return desk;
    }

    private static void noStepsToTheSame(Check check) {
        for (String digits : new String[] {"00000", "90000", "00001", "12345", "99999"}) {
            PackageDesk desk = between(digits, digits);
            check.steps(desk);
        }
    }

    private static void tenSteps(Check check) {
        check.steps(between("12345", "98766"), 145, 134, 123, 112, 101, 209, 218, 227, 236, 246);
        check.steps(between("99999", "11111"), 149, 139, 129, 119, 109, 201, 211, 221, 231, 241);
        check.steps(between("99999", "00000"), 149, 139, 129, 119, 109);
        check.steps(between("00000", "99999"), 209, 219, 229, 239, 249);
        check.steps(between("10101", "02020"), 141, 121, 101, 212, 232);
        check.steps(between("00009", "00008"), 149, 248);
    }

    private static void currentNotNewest(Check check) {
        PackageDesk desk = between("12000", "00340");
        desk.apply(-1);
        check.steps(desk);
        desk.rollback(1);
        check.steps(desk, 112, 101, 223, 234);
        desk.rollback(0);
        check.steps(desk, 223, 234);
        desk.rollback(2);
        check.steps(desk);
    }

    private static void stepsWithoutPlan(Check check) {
        PackageDesk desk = new PackageDesk();
        check.due("steps() of a new desk", desk.steps(), NONE);
        desk.wish(true, 0, 11);
        desk.solve();
        check.due("steps() after a solve that found nothing", desk.steps(), NONE);
        desk.reuse();
        check.due("steps() after a reuse that found nothing", desk.steps(), NONE);
        desk.unwish(0);
        desk.solve();
        check.due("steps() of an empty plan", desk.steps(), 0);
        PackageDesk kept = Desks.keeping(3);
        kept.wish(true, 0, 11);
        kept.solve();
        check.due("steps() with a generation that gives something", kept.steps(), NONE);
    }

    /** Every way in which the packages 0, 2 and 4 have no version, version 3 or version 7 before and after. */
    private static List<String> somePlans() {
        List<String> plans = new ArrayList<>();
        String versions = "037";
        for (int i = 0; i < 27; i++) {
            plans.add(versions.charAt(i / 9) + "0" + versions.charAt(i / 3 % 3) + "0" + versions.charAt(i % 3));
        }
        return plans;
    }

    private static int[] stepsDue(String current, String plan) {
        List<Integer> codes = new ArrayList<>();
        for (int pack = 4; pack >= 0; pack--) {
            if (current.charAt(pack) != '0' && current.charAt(pack) != plan.charAt(pack)) {
                codes.add(100 + 10 * pack + current.charAt(pack) - '0');
            }
        }
        for (int pack = 0; pack < 5; pack++) {
            if (plan.charAt(pack) != '0' && current.charAt(pack) != plan.charAt(pack)) {
                codes.add(200 + 10 * pack + plan.charAt(pack) - '0');
            }
        }
        return codes.stream().mapToInt(code -> code).toArray();
    }

    private static void takenAway(Check check) {
        check.steps(between("50000", "00000"), 105);
        check.steps(between("50000", "60000"), 105, 206);
        check.steps(between("50000", "50000"));
        check.steps(between("00005", "00004"), 145, 244);
        check.steps(between("00000", "00000"));
        check.steps(between("50050", "00050"), 105);
    }

    private static void takenAwayFirst(Check check) {
        for (String current : somePlans()) {
            for (String plan : somePlans()) {
                check.steps(between(current, plan), stepsDue(current, plan));
            }
        }
        // What is taken away goes by the packages alone, whatever needs there are.
        PackageDesk desk = between("12345", "00000");
        desk.offer(4, 5, 0);
        desk.offer(0, 1, 0);
        desk.demand(true, 45, 0, 11);
        check.steps(desk, 145, 134, 123, 112, 101);
        desk.withdraw(4, 5);
        desk.demand(true, 1, 4, 55);
        check.steps(desk, 145, 134, 123, 112, 101);
    }

    private static void putInPlace(Check check) {
        check.steps(between("00000", "50000"), 205);
        check.steps(between("60000", "50000"), 106, 205);
        check.steps(between("50000", "50000"));
        check.steps(between("50000", "50001"), 241);
        check.steps(between("55555", "55455"), 125, 224);
    }

    private static void withoutNeeds(Check check) {
        check.steps(Desks.planning("54321"), 205, 214, 223, 232, 241);
        check.steps(Desks.planning("04021"), 214, 232, 241);
    }

    /** The plan 11111, with x before y unless x needs y. */
    private static void everyPairRests(Check check) {
        for (int x = 0; x < 5; x++) {
            for (int y = 0; y < 5; y++) {
                if (x != y) {
                    PackageDesk desk = Desks.planning("11111");
                    desk.demand(true, 10 * x + 1, y, 11);
                    int[] due = new int[5];
                    int many = 0;
                    for (int pack = 0; pack < 5; pack++) {
                        if (pack != x || x > y) {
                            due[many++] = 201 + 10 * pack;
                        }
                        if (pack == y && x < y) {
                            due[many++] = 201 + 10 * x;
                        }
                    }
                    check.steps(desk, due);
                }
            }
        }
    }

    private static void restsOnOneWithoutVersion(Check check) {
        PackageDesk desk = Desks.planning("11010");
        desk.offer(2, 1, 0);
        desk.demand(true, 1, 2, 11);
        desk.demand(true, 21, 3, 11);
        check.steps(desk, 201, 211, 231);
        desk.demand(true, 1, 3, 11);
        check.steps(desk, 211, 231, 201);
    }

    private static void needsOfAVersionThatHasGone(Check check) {
        PackageDesk desk = Desks.planning("11111");
        desk.demand(true, 1, 4, 11);
        check.steps(desk, 211, 221, 231, 241, 201);
        desk.withdraw(0, 1);
        check.steps(desk, 201, 211, 221, 231, 241);
        desk.offer(0, 1, 0);
        check.steps(desk, 201, 211, 221, 231, 241);
        desk.demand(true, 1, 1, 11);
        check.steps(desk, 211, 201, 221, 231, 241);
    }

    private static void needsOnAVersionThatHasGone(Check check) {
        PackageDesk desk = Desks.planning("11111");
        desk.demand(true, 1, 4, 11);
        desk.withdraw(4, 1);
        check.steps(desk, 211, 221, 231, 241, 201);
        desk.offer(4, 2, 0);
        check.steps(desk, 211, 221, 231, 241, 201);
    }

    private static void needsOfAnotherVersion(Check check) {
        PackageDesk desk = Desks.planning("15111");
        desk.offer(0, 2, 0);
        desk.demand(true, 2, 4, 11);
        desk.offer(1, 4, 0);
        desk.demand(true, 14, 4, 11);
        desk.offer(1, 6, 0);
        desk.demand(true, 16, 4, 11);
        check.steps(desk, 201, 215, 221, 231, 241);
        desk.demand(true, 15, 4, 11);
        check.steps(desk, 201, 221, 231, 241, 215);
    }

    private static void clashesDoNotRest(Check check) {
        PackageDesk desk = Desks.planning("11111");
        desk.demand(false, 1, 4, 11);
        desk.demand(false, 1, 3, 99);
        check.steps(desk, 201, 211, 221, 231, 241);
        desk.demand(true, 1, 1, 11);
        check.steps(desk, 211, 201, 221, 231, 241);
    }

    private static void everyRangeRests(Check check) {
        for (int lo = 1; lo <= 9; lo++) {
            for (int hi = lo; hi <= 9; hi++) {
                PackageDesk desk = Desks.planning("10005");
                desk.demand(true, 1, 4, 10 * lo + hi);
                check.steps(desk, 245, 201);
            }
        }
    }

    /** One that is in place already has no step, and nothing waits for it in vain. */
    private static void restsOnOneThatStays(Check check) {
        PackageDesk desk = between("00001", "11001");
        desk.demand(true, 1, 4, 11);
        check.steps(desk, 211, 201);
        PackageDesk early = between("10000", "11001");
        early.demand(true, 11, 0, 11);
        check.steps(early, 211, 241);
        early.demand(true, 1, 4, 11);
        check.steps(early, 241, 211);
    }

    private static List<int[]> orders() {
        List<int[]> orders = new ArrayList<>();
        for (int n = 0; n < 3125; n++) {
            int[] order = {n % 5, n / 5 % 5, n / 25 % 5, n / 125 % 5, n / 625};
            int seen = 0;
            for (int pack : order) {
                seen |= 1 << pack;
            }
            if (seen == 31) {
                orders.add(order);
            }
        }
        return orders;
    }

    /** In every order of the five, each needs the one that comes before it. */
    private static void everyChain(Check check) {
        for (int[] order : orders()) {
            PackageDesk desk = Desks.planning("11111");
            int[] due = new int[5];
            for (int i = 0; i < 5; i++) {
                due[i] = 201 + 10 * order[i];
                if (i > 0) {
                    desk.demand(true, 10 * order[i] + 1, order[i - 1], 11);
                }
            }
            check.steps(desk, due);
        }
    }

    private static void chainThroughOneThatStays(Check check) {
        PackageDesk desk = between("00100", "11101");
        desk.demand(true, 1, 2, 11);
        desk.demand(true, 21, 4, 11);
        check.steps(desk, 211, 241, 201);
        desk.withdraw(2, 1);
        check.steps(desk, 211, 201, 241);
    }

    /** Each needs the one before it in the order; only the ends of the chain have a step. */
    private static void chainThroughSomeThatStay(Check check) {
        for (int[] order : orders()) {
            for (int between = 0; between <= 3; between++) {
                StringBuilder current = new StringBuilder("00000");
                StringBuilder plan = new StringBuilder("00000");
                for (int i = 0; i <= between + 1; i++) {
                    plan.setCharAt(order[i], '1');
                    current.setCharAt(order[i], i == 0 || i == between + 1 ? '0' : '1');
                }
                PackageDesk desk = between(current.toString(), plan.toString());
                for (int i = 1; i <= between + 1; i++) {
                    desk.demand(true, 10 * order[i] + 1, order[i - 1], 99);
                }
                check.steps(desk, 201 + 10 * order[0], 201 + 10 * order[between + 1]);
            }
        }
    }

    private static void noChainThroughOneWithoutVersion(Check check) {
        PackageDesk desk = Desks.planning("11001");
        desk.offer(2, 1, 0);
        desk.demand(true, 1, 2, 11);
        desk.demand(true, 21, 4, 11);
        check.steps(desk, 201, 211, 241);
    }

    /** No two of the three rest on each other; they build on each other by way of the third. */
    private static void longWayRound(Check check) {
        PackageDesk desk = Desks.planning("11111");
        desk.demand(true, 1, 4, 11);
        desk.demand(true, 41, 2, 11);
        check.steps(desk, 211, 221, 231, 241, 201);
        desk.demand(true, 21, 0, 11);
        check.steps(desk, 201, 221, 241, 211, 231);
        desk.demand(true, 21, 1, 11);
        check.steps(desk, 211, 201, 221, 241, 231);
        PackageDesk stays = between("00001", "11111");
        stays.demand(true, 1, 4, 11);
        stays.demand(true, 41, 2, 11);
        stays.demand(true, 21, 0, 11);
        check.steps(stays, 201, 221, 211, 231);
    }

    /** Rings of two to five packages; a ring comes where its least member stands. */
    private static void everyRing(Check check) {
        for (int[] order : orders()) {
            for (int length = 2; length <= 5; length++) {
                PackageDesk desk = Desks.planning("11111");
                int members = 0;
                int least = 4;
                for (int i = 0; i < length; i++) {
                    desk.demand(true, 10 * order[i] + 1, order[(i + 1) % length], 11);
                    members |= 1 << order[i];
                    least = Math.min(least, order[i]);
                }
                int[] due = new int[5];
                int many = 0;
                for (int pack = 0; pack < 5; pack++) {
                    for (int member = 0; member < 5 && pack == least; member++) {
                        if ((members >> member & 1) != 0) {
                            due[many++] = 201 + 10 * member;
                        }
                    }
                    if ((members >> pack & 1) == 0) {
                        due[many++] = 201 + 10 * pack;
                    }
                }
                check.steps(desk, due);
            }
        }
    }

    private static void groupsOfOne(Check check) {
        PackageDesk desk = Desks.planning("11111");
        check.steps(desk, 201, 211, 221, 231, 241);
        desk.demand(true, 1, 3, 11);
        check.steps(desk, 211, 221, 231, 201, 241);
        desk.demand(true, 11, 4, 11);
        check.steps(desk, 221, 231, 201, 241, 211);
        check.steps(Desks.planning("00100"), 221);
    }

    private static void groupsWait(Check check) {
        PackageDesk desk = Desks.planning("11111");
        desk.demand(true, 1, 1, 11);
        desk.demand(true, 11, 0, 11);
        check.steps(desk, 201, 211, 221, 231, 241);
        desk.demand(true, 11, 4, 11);
        check.steps(desk, 221, 231, 241, 201, 211);
        desk.demand(true, 41, 3, 11);
        desk.demand(true, 31, 4, 11);
        check.steps(desk, 221, 231, 241, 201, 211);
        desk.demand(true, 31, 2, 11);
        desk.demand(true, 21, 1, 11);
        check.steps(desk, 201, 211, 221, 231, 241);
    }

    /** A group that becomes ready comes before greater ones that were ready earlier. */
    private static void leastOfTheReady(Check check) {
        PackageDesk desk = Desks.planning("11111");
        desk.demand(true, 1, 2, 11);
        check.steps(desk, 211, 221, 201, 231, 241);
        desk.demand(true, 21, 3, 11);
        check.steps(desk, 211, 231, 221, 201, 241);
        desk.demand(true, 11, 4, 11);
        check.steps(desk, 231, 221, 201, 241, 211);
        PackageDesk rings = Desks.planning("11111");
        rings.demand(true, 1, 4, 11);
        rings.demand(true, 41, 0, 11);
        rings.demand(true, 11, 3, 11);
        rings.demand(true, 31, 1, 11);
        check.steps(rings, 201, 241, 211, 231, 221);
        rings.demand(true, 41, 3, 11);
        check.steps(rings, 211, 231, 201, 241, 221);
    }

    /** A group's place goes by its least package, also if this one has no step. */
    private static void leastPackageStays(Check check) {
        PackageDesk desk = between("10000", "11010");
        check.steps(desk, 211, 231);
        desk.demand(true, 1, 3, 11);
        desk.demand(true, 31, 0, 11);
        check.steps(desk, 231, 211);
        PackageDesk last = between("01000", "11111");
        last.demand(true, 11, 4, 11);
        last.demand(true, 41, 1, 11);
        check.steps(last, 201, 241, 221, 231);
    }

    /** One that stays is placed in its turn, and not before all others. */
    private static void onesThatStayWaitToo(Check check) {
        PackageDesk desk = between("00100", "11110");
        desk.demand(true, 1, 2, 11);
        check.steps(desk, 211, 201, 231);
        desk.demand(true, 21, 3, 11);
        check.steps(desk, 211, 231, 201);
    }

    /** Needs as a number: bit 4 * x + i is a need of x on the i-th of the others. */
    private static void compareNeeds(Check check, int needs, String current, String plan, int range) {
        PackageDesk desk = between(current, plan);
        Model model = new Model();
        for (int pack = 0; pack < 5; pack++) {
            desk.offer(pack, 1, 0);
            model.offer(pack, 1, 0);
        }
        model.kept.put(model.current, given(current));
        model.plan = given(plan);
        for (int bit = 0; bit < 20; bit++) {
            if ((needs >> bit & 1) != 0) {
                int x = bit / 4;
                int y = bit % 4 < x ? bit % 4 : bit % 4 + 1;
                desk.demand(true, 10 * x + 1, y, range);
                model.demand(true, 10 * x + 1, y, range);
            }
        }
        String state = "from " + current + " to " + plan + ", needs " + Integer.toBinaryString(needs) + ", step(";
        List<Integer> due = model.steps();
        for (int i = 0; i < due.size(); i++) {
            check.due(state + i + ")", desk.step(i), due.get(i));
        }
    }

    private static List<Integer> given(String digits) {
        return digits.chars().mapToObj(digit -> digit - '0').toList();
    }

    /**
     * Every way in which each package has no version in the plan, or the one that it has already, or
     * another one; the current version that goes is 2. What is not in the plan has needs all the same.
     */
    private static void needsAmongAllOfThePlan(Check check) {
        String[] ways = {"00", "20", "01", "11", "21"};
        Random random = new Random(15);
        for (int way = 0; way < 3125; way++) {
            StringBuilder current = new StringBuilder();
            StringBuilder plan = new StringBuilder();
            for (int pack = 0, left = way; pack < 5; pack++, left /= 5) {
                current.append(ways[left % 5].charAt(0));
                plan.append(ways[left % 5].charAt(1));
            }
            for (int i = 0; i < 5; i++) {
                // Of two sets what they share: with more needs, most packages would be in one group.
                int needs = random.nextInt(1 << 20) & random.nextInt(1 << 20);
                compareNeeds(check, needs, current.toString(), plan.toString(), i % 2 == 0 ? 11 : 99);
            }
        }
    }

    /** All needs that the packages 0 .. 3 can have on one another. */
    private static void allNeedsOfFour(Check check) {
        for (int needs = 0; needs < 4096; needs++) {
            int spread = 0;
            for (int bit = 0; bit < 12; bit++) {
                spread |= (needs >> bit & 1) << 4 * (bit / 3) + bit % 3;
            }
            compareNeeds(check, spread, "00000", "11111", 11);
        }
    }

    private static void manyNeedsOfFive(Check check) {
        for (int needs = 0; needs < 1 << 20; needs += 101) {
            compareNeeds(check, needs, "00000", "11111", 11);
        }
    }

    private static void membersOfAGroup(Check check) {
        PackageDesk desk = Desks.planning("11111");
        desk.demand(true, 41, 2, 11);
        desk.demand(true, 21, 3, 11);
        desk.demand(true, 31, 4, 11);
        check.steps(desk, 201, 211, 221, 231, 241);
        desk.demand(true, 1, 4, 11);
        check.steps(desk, 211, 221, 231, 241, 201);
        desk.demand(true, 31, 0, 11);
        check.steps(desk, 201, 221, 231, 241, 211);
        PackageDesk some = between("00100", "11111");
        some.demand(true, 1, 4, 11);
        some.demand(true, 41, 2, 11);
        some.demand(true, 21, 0, 11);
        check.steps(some, 201, 241, 211, 231);
    }

    private static String alone(int pack, int version) {
        return "00000".substring(0, pack) + version + "00000".substring(pack + 1);
    }

    private static void codesOfTakingAway(Check check) {
        for (int pack = 0; pack < 5; pack++) {
            for (int version = 1; version <= 9; version++) {
                check.steps(between(alone(pack, version), "00000"), 100 + 10 * pack + version);
            }
        }
    }

    private static void codesOfPutting(Check check) {
        for (int pack = 0; pack < 5; pack++) {
            for (int version = 1; version <= 9; version++) {
                check.steps(between("00000", alone(pack, version)), 200 + 10 * pack + version);
                int old = version % 9 + 1;
                check.steps(between(alone(pack, old), alone(pack, version)),
                    100 + 10 * pack + old, 200 + 10 * pack + version);
            }
        }
    }

    private static void stepWithoutPlan(Check check) {
        PackageDesk desk = Desks.holding("12345");
        desk.wish(true, 0, 11);
        desk.solve();
        for (int i : new int[] {0, 1, 4, -1, Integer.MIN_VALUE, Integer.MAX_VALUE}) {
            check.due("step(" + i + ") of a new desk", new PackageDesk().step(i), NONE);
            check.due("step(" + i + ") after a solve that found nothing", desk.step(i), NONE);
        }
    }

    private static void noSuchStep(Check check) {
        String[] plans = {"00000", "10000", "12000", "12300", "12340", "12345"};
        for (int many = 0; many <= 5; many++) {
            PackageDesk desk = Desks.planning(plans[many]);
            check.holds("the last one", many == 0 || desk.step(many - 1) > 0);
            int[] beyond = {many, many + 1, 10, 32, 256, 65536, -1, -256, Integer.MIN_VALUE, Integer.MAX_VALUE};
            for (int i : beyond) {
                check.due("step(" + i + ") of " + many, desk.step(i), NONE);
            }
        }
        PackageDesk ten = between("12345", "98766");
        check.due("step(9)", ten.step(9), 246);
        check.due("step(10)", ten.step(10), NONE);
        PackageDesk fewer = between("12345", "98766");
        fewer.steps();
        fewer.solve();
        fewer.rollback(0);
        check.due("steps that were there before", fewer.step(0), NONE);
    }
}
