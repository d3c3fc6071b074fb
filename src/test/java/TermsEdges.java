/** The section "Terms", but for the order of the tests and for what changes nothing. */
final class TermsEdges {
    private static final int BAD = PackageDesk.BAD;
    private static final int FULL = PackageDesk.FULL;
    private static final int NONE = PackageDesk.NONE;

    private TermsEdges() {
    }

    static void add(Sentences document) {
        document.section("What it is");
        document.says("An object is used for at most 512 calls after it has been made", TermsEdges::lastCall);

        document.section("Terms");
        document.says("There are five PACKAGES 0 .. 4.", TermsEdges::fivePackages);
        document.says("THE INDEX has at most four VERSIONS of each", TermsEdges::fourVersions);
        document.says("numbers 1 .. 9", TermsEdges::versionNumbers);
        document.says("none at first.", TermsEdges::noVersionsAtFirst);
        document.says("A version has PATHS, a set written as a number 0 .. 255", TermsEdges::everySetOfPaths);
        document.says("and at most three DEMANDS", TermsEdges::threeDemands);
        document.says("each on another package", TermsEdges::onAnotherPackage);
        document.says("and a RANGE of versions lo .. hi", TermsEdges::everyRangeOfADemand);
        document.says("(written 10 * lo + hi, with 1 <= lo <= hi <= 9)", TermsEdges::writingOfRanges);
        document.says(": a NEED, or a CLASH.", TermsEdges::needOrClash);
        document.says("There are at most four WISHES", TermsEdges::fourWishes);
        document.says("numbered 0, 1, .. in their order", TermsEdges::wishNumbers);
        document.says("each on a package and a range: to HAVE, or to AVOID.", TermsEdges::everyRangeOfAWish);
        document.says("A CHOICE gives every package one of the versions that the index has of it, or none (0).",
            TermsEdges::choices);
        document.says("It MEETS a wish to have if it gives the package a version in the range",
            TermsEdges::meetsToHave);
        document.says(", and a wish to avoid if it does not.", TermsEdges::meetsToAvoid);
        document.says("It is SOUND if for every package with a version", TermsEdges::demandsOfWhatIsNotGiven);
        document.says(", every need of this version finds a version in its range given to the other package",
            TermsEdges::everyNeed);
        document.says(", and every clash finds none;", TermsEdges::everyClash);
        document.says("and no two packages have versions with a path in common.", TermsEdges::pathsInCommon);
        document.says("It is a SOLUTION if it is sound and meets all wishes.", TermsEdges::solutionOfFourWishes);
        document.says("Of two choices the BETTER one is better at the first package at which they differ",
            TermsEdges::firstDifference);
        document.says(": none is better than any version", TermsEdges::noneIsBest);
        document.says(", and a greater version is better than a lesser one.", TermsEdges::greaterIsBetter);
        document.says("There may be a PLAN, a choice, and a LOCK, a choice; neither is there at first.",
            TermsEdges::neitherPlanNorLockAtFirst);
        document.says("They stay as they are whatever happens to the index", TermsEdges::planAndLockOutliveTheIndex);
        document.says("and to the wishes.", TermsEdges::planAndLockOutliveTheWishes);
        document.says("A GENERATION has a number and gives every package a version or none.",
            TermsEdges::whatAGenerationGives);
        document.says("At most six are KEPT.", TermsEdges::sixKept);
        document.says("At first generation 0 is kept, which gives none to all, and it is the CURRENT one.",
            TermsEdges::generationZero);
        document.says("a package is good if it is 0 .. 4", TermsEdges::goodPackages);
        document.says(", a version if it is 1 .. 9", TermsEdges::goodVersions);
        document.says(", a range if it is written as said.", TermsEdges::goodRanges);
    }

    private static PackageDesk offering(int pack, int version) {
        PackageDesk desk = new PackageDesk();
        desk.offer(pack, version, 0);
        return desk;
    }

    /** Two calls make a generation, so that the numbers come far beyond 127 within 512 calls. */
    private static void lastCall(Check check) {
        PackageDesk desk = new PackageDesk();
        desk.offer(2, 7, 0);
        desk.wish(true, 2, 77);
        desk.solve();
        for (int number = 1; number <= 254; number++) {
            check.due("apply(-1)", desk.apply(-1), number);
            check.due("rollback(0)", desk.rollback(0), 1);
        }
        check.due("call 512, apply(-1)", desk.apply(-1), 255);

        PackageDesk counted = new PackageDesk();
        counted.offer(2, 7, 0);
        counted.wish(true, 2, 77);
        counted.solve();
        for (int number = 1; number <= 169; number++) {
            check.due("apply(-1)", counted.apply(-1), number);
            check.due("current()", counted.current(), number);
            check.due("rollback(0)", counted.rollback(0), 1);
        }
        check.due("rollback(169)", counted.rollback(169), 1);
        check.due("call 512, version(165, 2)", counted.version(165, 2), 7);

        PackageDesk asked = new PackageDesk();
        for (int i = 0; i < 128; i++) {
            check.due("offer(0, 3, 0)", asked.offer(0, 3, 0), 1);
            check.due("demand(true, 3, 1, 11)", asked.demand(true, 3, 1, 11), 1);
            check.due("solutions()", asked.solutions(), 1);
            check.due("call " + (4 * i + 4) + ", withdraw(0, 3)", asked.withdraw(0, 3), 0);
        }

        PackageDesk wishing = new PackageDesk();
        for (int i = 0; i < 171; i++) {
            check.due("wish(true, 4, 19)", wishing.wish(true, 4, 19), 0);
            check.due("solve()", wishing.solve(), NONE);
            if (i < 170) {
                check.due("unwish(0)", wishing.unwish(0), 0);
            }
        }
    }

    private static void fivePackages(Check check) {
        PackageDesk desk = new PackageDesk();
        check.due("package -1", desk.offer(-1, 1, 0), BAD);
        for (int pack = 0; pack <= 4; pack++) {
            check.due("package " + pack, desk.offer(pack, pack + 1, 0), 1);
        }
        check.due("package 5", desk.offer(5, 1, 0), BAD);
        desk.demand(true, 1, 1, 22);
        desk.demand(true, 1, 2, 33);
        desk.demand(true, 1, 3, 44);
        desk.demand(true, 34, 4, 55);
        desk.wish(true, 0, 11);
        check.due("solve()", desk.solve(), 5);
        check.plan(desk, "12345");
        desk.apply(-1);
        check.generation(desk, 1, "12345");
    }

    private static void fourVersions(Check check) {
        for (int pack = 0; pack < 5; pack++) {
            PackageDesk desk = new PackageDesk();
            for (int other = 0; other < 5; other++) {
                for (int version = 6; version <= 9 && other != pack; version++) {
                    desk.offer(other, version, 0);
                }
            }
            check.due("the first", desk.offer(pack, 9, 0), 1);
            check.due("the second", desk.offer(pack, 1, 0), 2);
            check.due("the third", desk.offer(pack, 8, 0), 3);
            check.due("the fourth", desk.offer(pack, 2, 0), 4);
            for (int version = 3; version <= 7; version++) {
                check.due("a fifth, " + version, desk.offer(pack, version, 0), FULL);
                check.due("which is not there", desk.possible(pack, version), 0);
            }
            check.due("four versions or none of each", desk.solutions(), 3125);
        }
    }

    private static void versionNumbers(Check check) {
        for (int pack = 0; pack < 5; pack++) {
            for (int version = 1; version <= 9; version++) {
                PackageDesk desk = new PackageDesk();
                check.due("version " + version, desk.offer(pack, version, 0), 1);
                desk.wish(true, pack, 11 * version);
                check.due("solve()", desk.solve(), 1);
                check.due("chosen(" + pack + ")", desk.chosen(pack), version);
            }
            check.due("version 0", new PackageDesk().offer(pack, 0, 0), BAD);
            check.due("version 10", new PackageDesk().offer(pack, 10, 0), BAD);
        }
    }

    private static void noVersionsAtFirst(Check check) {
        PackageDesk desk = new PackageDesk();
        for (int pack = 0; pack < 5; pack++) {
            for (int version = 1; version <= 9; version++) {
                check.due("possible(" + pack + ", " + version + ")", desk.possible(pack, version), 0);
                check.due("withdraw(" + pack + ", " + version + ")", desk.withdraw(pack, version), NONE);
                check.due("demand", desk.demand(true, 10 * pack + version, (pack + 1) % 5, 19), NONE);
            }
        }
        check.due("solutions()", desk.solutions(), 1);
    }

    private static void everySetOfPaths(Check check) {
        for (int paths = 0; paths <= 255; paths++) {
            for (int bit = 0; bit < 8; bit++) {
                PackageDesk desk = new PackageDesk();
                check.due("offer(1, 4, " + paths + ")", desk.offer(1, 4, paths), 1);
                desk.offer(3, 6, 1 << bit);
                check.due("path " + bit + " of " + paths, desk.solutions(), (paths >> bit & 1) != 0 ? 3 : 4);
            }
        }
        check.due("paths -1", new PackageDesk().offer(1, 4, -1), BAD);
        check.due("paths 256", new PackageDesk().offer(1, 4, 256), BAD);
    }

    /** Needs and clashes in every mixture count together, for every version on its own. */
    private static void threeDemands(Check check) {
        for (int mixture = 0; mixture < 16; mixture++) {
            PackageDesk desk = offering(2, 5);
            desk.offer(2, 6, 0);
            desk.offer(3, 5, 0);
            for (int i = 0; i < 3; i++) {
                check.due("demand " + i, desk.demand((mixture >> i & 1) != 0, 25, 1, 11), i + 1);
            }
            check.due("a fourth", desk.demand((mixture >> 3 & 1) != 0, 25, 0, 99), FULL);
            check.due("the first of another version", desk.demand(true, 26, 1, 11), 1);
            check.due("the first of another package", desk.demand(true, 35, 1, 11), 1);
        }
    }

    private static void onAnotherPackage(Check check) {
        for (int pack = 0; pack < 5; pack++) {
            for (int other = 0; other < 5; other++) {
                int due = other == pack ? BAD : 1;
                int of = 10 * pack + 3;
                check.due("a need of " + of + " on " + other, offering(pack, 3).demand(true, of, other, 33), due);
                check.due("a clash of " + of + " on " + other, offering(pack, 3).demand(false, of, other, 33), due);
            }
        }
    }

    private static void everyRangeOfADemand(Check check) {
        for (int lo = 1; lo <= 9; lo++) {
            for (int hi = lo; hi <= 9; hi++) {
                for (int version = 1; version <= 9; version++) {
                    boolean within = lo <= version && version <= hi;
                    PackageDesk need = offering(3, version);
                    need.offer(1, 2, 0);
                    need.demand(true, 12, 3, 10 * lo + hi);
                    check.due("need in " + lo + hi + " of " + version, need.possible(1, 2), within ? 1 : 0);
                    PackageDesk clash = offering(3, version);
                    clash.offer(1, 2, 0);
                    clash.demand(false, 12, 3, 10 * lo + hi);
                    check.due("clash in " + lo + hi + " with " + version, clash.solutions(), within ? 3 : 4);
                }
            }
        }
    }

    private static void writingOfRanges(Check check) {
        for (int number = 0; number <= 110; number++) {
            boolean good = Wrong.isRange(number);
            check.due("demand in " + number, offering(0, 1).demand(true, 1, 4, number), good ? 1 : BAD);
            check.due("wish in " + number, new PackageDesk().wish(true, 4, number), good ? 0 : BAD);
        }
        for (int number : Wrong.RANGES) {
            check.due("demand in " + number, offering(0, 1).demand(false, 1, 4, number), BAD);
            check.due("wish in " + number, new PackageDesk().wish(false, 4, number), BAD);
        }
    }

    private static void needOrClash(Check check) {
        PackageDesk desk = offering(4, 1);
        desk.offer(0, 1, 0);
        desk.offer(0, 2, 0);
        desk.demand(true, 1, 4, 11);
        desk.demand(false, 2, 4, 11);
        desk.wish(true, 0, 11);
        check.due("a need brings the other one", desk.solve(), 2);
        check.plan(desk, "10001");
        desk.unwish(0);
        desk.wish(true, 0, 22);
        check.due("a clash keeps it out", desk.possible(4, 1), 0);
        check.due("and asks for nothing", desk.solve(), 1);
        check.plan(desk, "20000");
    }

    private static void fourWishes(Check check) {
        for (int mixture = 0; mixture < 32; mixture++) {
            PackageDesk desk = new PackageDesk();
            for (int i = 0; i < 4; i++) {
                check.due("wish " + i, desk.wish((mixture >> i & 1) != 0, i, 11), i);
            }
            check.due("a fifth", desk.wish((mixture >> 4 & 1) != 0, 4, 11), FULL);
            check.due("four are there", desk.unwish(0), 3);
        }
    }

    /** Each wish is one that nothing meets, while the others are met: blame tells its number. */
    private static void wishNumbers(Check check) {
        for (int wrong = 0; wrong < 4; wrong++) {
            PackageDesk desk = new PackageDesk();
            for (int i = 0; i < 4; i++) {
                check.due("wish", desk.wish(i == wrong, i, 19), i);
            }
            check.due("blame()", desk.blame(), 1 << wrong);
        }
    }

    private static void everyRangeOfAWish(Check check) {
        for (int lo = 1; lo <= 9; lo++) {
            for (int hi = lo; hi <= 9; hi++) {
                for (int version = 1; version <= 9; version++) {
                    int within = lo <= version && version <= hi ? 1 : 0;
                    int pack = version % 5;
                    PackageDesk have = offering(pack, version);
                    have.wish(true, pack, 10 * lo + hi);
                    check.due("to have " + lo + hi + " of " + version, have.possible(pack, version), within);
                    PackageDesk avoid = offering(pack, version);
                    avoid.wish(false, pack, 10 * lo + hi);
                    check.due("to avoid " + lo + hi + " of " + version, avoid.possible(pack, version), 1 - within);
                }
            }
        }
    }

    private static void choices(Check check) {
        PackageDesk desk = offering(0, 2);
        desk.offer(0, 7, 0);
        desk.offer(3, 9, 0);
        check.due("three times two", desk.solutions(), 6);
        for (int pack = 0; pack < 5; pack++) {
            check.due("none of " + pack, desk.possible(pack, 0), 1);
            for (int version = 1; version <= 9; version++) {
                boolean has = pack == 0 && (version == 2 || version == 7) || pack == 3 && version == 9;
                check.due("possible(" + pack + ", " + version + ")", desk.possible(pack, version), has ? 1 : 0);
            }
        }
        check.due("withdraw(0, 7)", desk.withdraw(0, 7), 1);
        check.due("two times two", desk.solutions(), 4);
        check.due("possible(0, 7)", desk.possible(0, 7), 0);
    }

    private static void meetsToHave(Check check) {
        PackageDesk desk = new PackageDesk();
        for (int version = 3; version <= 6; version++) {
            desk.offer(4, version, 0);
        }
        desk.wish(true, 4, 45);
        check.due("below the range", desk.possible(4, 3), 0);
        check.due("at lo", desk.possible(4, 4), 1);
        check.due("at hi", desk.possible(4, 5), 1);
        check.due("above the range", desk.possible(4, 6), 0);
        check.due("none", desk.possible(4, 0), 0);
        PackageDesk all = new PackageDesk();
        all.wish(true, 0, 19);
        check.due("none is in no range", all.solutions(), 0);
    }

    private static void meetsToAvoid(Check check) {
        PackageDesk desk = new PackageDesk();
        for (int version = 3; version <= 6; version++) {
            desk.offer(4, version, 0);
        }
        desk.wish(false, 4, 45);
        check.due("below the range", desk.possible(4, 3), 1);
        check.due("at lo", desk.possible(4, 4), 0);
        check.due("at hi", desk.possible(4, 5), 0);
        check.due("above the range", desk.possible(4, 6), 1);
        check.due("none", desk.possible(4, 0), 1);
        PackageDesk all = new PackageDesk();
        all.wish(false, 0, 19);
        check.due("none is in no range", all.solutions(), 1);
    }

    private static void demandsOfWhatIsNotGiven(Check check) {
        for (int pack = 0; pack < 5; pack++) {
            int other = (pack + 2) % 5;
            PackageDesk desk = offering(pack, 1);
            desk.offer(pack, 2, 0);
            desk.offer(other, 8, 0);
            desk.demand(true, 10 * pack + 1, other, 99);
            desk.demand(false, 10 * pack + 2, other, 88);
            check.due("version 1 is in no solution", desk.possible(pack, 1), 0);
            check.due("nor does it hinder: none, or 2, or 8 alone", desk.solutions(), 3);
            PackageDesk silent = offering(other, 8);
            silent.offer(pack, 1, 255);
            silent.offer((pack + 1) % 5, 1, 255);
            check.due("paths of what is not given", silent.solutions(), 6);
        }
    }

    /** A version of one package with its need as the last of as many demands as there may be. */
    private static PackageDesk withDemand(int pack, int other, boolean need, int range, int before) {
        PackageDesk desk = offering(pack, 5);
        int idle = 0;
        while (idle == pack || idle == other) {
            idle++;
        }
        for (int i = 0; i < before; i++) {
            desk.demand(false, 10 * pack + 5, idle, 19);
        }
        desk.demand(need, 10 * pack + 5, other, range);
        return desk;
    }

    private static void everyNeed(Check check) {
        for (int pack = 0; pack < 5; pack++) {
            for (int other = 0; other < 5; other++) {
                for (int before = 0; before < 3 && other != pack; before++) {
                    PackageDesk desk = withDemand(pack, other, true, 46, before);
                    String who = pack + " needs " + other + ": ";
                    check.due(who + "none", desk.possible(pack, 5), 0);
                    desk.offer(other, 3, 0);
                    desk.offer(other, 7, 0);
                    check.due(who + "below and above", desk.possible(pack, 5), 0);
                    desk.offer(other, 4, 0);
                    check.due(who + "lo", desk.possible(pack, 5), 1);
                    check.due(who + "solutions", desk.solutions(), 5);
                    desk.withdraw(other, 4);
                    desk.offer(other, 6, 0);
                    check.due(who + "hi", desk.possible(pack, 5), 1);
                    check.due(who + "solutions", desk.solutions(), 5);
                }
            }
        }
        PackageDesk two = withDemand(0, 1, true, 11, 0);
        two.demand(true, 5, 2, 11);
        two.offer(1, 1, 0);
        check.due("one of two needs is not enough", two.possible(0, 5), 0);
        two.offer(2, 1, 0);
        check.due("both", two.possible(0, 5), 1);
    }

    private static void everyClash(Check check) {
        for (int pack = 0; pack < 5; pack++) {
            for (int other = 0; other < 5; other++) {
                for (int before = 0; before < 3 && other != pack; before++) {
                    PackageDesk desk = withDemand(pack, other, false, 46, before);
                    String who = pack + " clashes with " + other + ": ";
                    check.due(who + "none", desk.solutions(), 2);
                    desk.offer(other, 3, 0);
                    desk.offer(other, 7, 0);
                    check.due(who + "below and above", desk.solutions(), 6);
                    desk.offer(other, 4, 0);
                    check.due(who + "lo", desk.solutions(), 7);
                    desk.offer(other, 6, 0);
                    check.due(who + "hi", desk.solutions(), 8);
                }
            }
        }
    }

    private static void pathsInCommon(Check check) {
        for (int pack = 0; pack < 5; pack++) {
            for (int other = 0; other < 5; other++) {
                for (int bit = 0; bit < 8 && other != pack; bit++) {
                    PackageDesk desk = new PackageDesk();
                    desk.offer(pack, 1, 1 << bit);
                    desk.offer(other, 9, 255);
                    check.due("path " + bit + " of " + pack + " and " + other, desk.solutions(), 3);
                    desk.withdraw(other, 9);
                    desk.offer(other, 9, 255 - (1 << bit));
                    check.due("all but path " + bit, desk.solutions(), 4);
                }
            }
        }
        PackageDesk none = new PackageDesk();
        none.offer(0, 1, 0);
        none.offer(1, 1, 0);
        none.offer(2, 1, 255);
        check.due("no paths at all", none.solutions(), 8);
        PackageDesk same = new PackageDesk();
        same.offer(1, 1, 255);
        same.offer(1, 2, 255);
        check.due("two versions of one package", same.solutions(), 3);
        PackageDesk third = new PackageDesk();
        third.offer(0, 1, 1);
        third.offer(2, 1, 2);
        third.offer(4, 1, 3);
        check.due("a third one with paths of both", third.solutions(), 5);
        PackageDesk apart = new PackageDesk();
        apart.offer(0, 1, 1);
        apart.offer(2, 1, 2);
        apart.offer(4, 1, 1);
        check.due("a third one between the two", apart.solutions(), 6);
    }

    private static void solutionOfFourWishes(Check check) {
        for (int wrong = 0; wrong < 4; wrong++) {
            PackageDesk desk = new PackageDesk();
            for (int i = 0; i < 4; i++) {
                desk.offer(i, 2, 0);
                desk.wish(true, i, i == wrong ? 11 : 22);
            }
            check.due("all wishes but " + wrong, desk.solutions(), 0);
            desk.offer(wrong, 1, 0);
            check.due("all wishes", desk.solutions(), 1);
            desk.demand(true, 10 * wrong + 1, 4, 19);
            check.due("all wishes, and not sound", desk.solutions(), 0);
        }
    }

    /** The version 2 of x needs y: it is better at x, and worse at y. */
    private static void firstDifference(Check check) {
        for (int x = 0; x < 5; x++) {
            for (int y = 0; y < 5; y++) {
                if (x != y) {
                    PackageDesk desk = offering(x, 2);
                    desk.offer(x, 1, 0);
                    desk.offer(y, 9, 0);
                    desk.demand(true, 10 * x + 2, y, 19);
                    desk.wish(true, x, 19);
                    check.due("solve() for " + x, desk.solve(), x < y ? 2 : 1);
                    check.due("version of " + x, desk.chosen(x), x < y ? 2 : 1);
                    check.due("version of " + y, desk.chosen(y), x < y ? 9 : 0);
                }
            }
        }
    }

    private static void noneIsBest(Check check) {
        for (int version = 1; version <= 9; version++) {
            for (int pack = 0; pack < 5; pack++) {
                PackageDesk desk = offering(pack, version);
                check.due("none rather than " + version, desk.solve(), 0);
                check.plan(desk, "00000");
            }
        }
        PackageDesk later = offering(4, 1);
        later.offer(4, 9, 0);
        later.offer(0, 9, 0);
        later.demand(true, 49, 0, 99);
        later.wish(true, 4, 19);
        later.solve();
        check.plan(later, "00001");
    }

    private static void greaterIsBetter(Check check) {
        for (int lesser = 1; lesser <= 8; lesser++) {
            for (int greater = lesser + 1; greater <= 9; greater++) {
                for (int pack = 0; pack < 5; pack++) {
                    PackageDesk desk = offering(pack, pack % 2 == 0 ? lesser : greater);
                    desk.offer(pack, pack % 2 == 0 ? greater : lesser, 0);
                    desk.wish(true, pack, 19);
                    desk.solve();
                    check.due(greater + " rather than " + lesser, desk.chosen(pack), greater);
                }
            }
        }
    }

    private static void neitherPlanNorLockAtFirst(Check check) {
        PackageDesk desk = new PackageDesk();
        check.noPlan(desk);
        check.noLock(desk);
        desk.offer(0, 1, 0);
        desk.wish(true, 0, 11);
        check.noPlan(desk);
        check.noLock(desk);
        check.due("lock()", desk.lock(), NONE);
        check.due("steps()", desk.steps(), NONE);
        check.due("apply(-1)", desk.apply(-1), NONE);
        desk.solve();
        check.noLock(desk);
    }

    private static void planAndLockOutliveTheIndex(Check check) {
        PackageDesk desk = Desks.planning("30807");
        desk.lock();
        String[] changes = {"a version better than that of the plan", "a need that nothing meets",
            "a clash with the other one", "the version of the plan goes", "and comes with other paths",
            "all versions of the plan go"};
        for (int i = 0; i < changes.length; i++) {
            switch (i) {
                case 0 -> desk.offer(0, 9, 0);
                case 1 -> desk.demand(true, 3, 1, 19);
                case 2 -> desk.demand(false, 28, 4, 77);
                case 3 -> desk.withdraw(0, 3);
                case 4 -> desk.offer(0, 3, 255);
                default -> Desks.withdraw(desk, "30807");
            }
            check.holds("after: " + changes[i], desk.chosen(0) == 3 && desk.locked(0) == 3);
            check.plan(desk, "30807");
            check.lock(desk, "30807");
        }
    }

    private static void planAndLockOutliveTheWishes(Check check) {
        PackageDesk desk = Desks.planning("30807");
        desk.lock();
        desk.wish(false, 0, 33);
        check.plan(desk, "30807");
        check.lock(desk, "30807");
        desk.wish(true, 1, 19);
        check.due("no solution now", desk.solutions(), 0);
        check.plan(desk, "30807");
        check.lock(desk, "30807");
        desk.unwish(0);
        desk.unwish(0);
        check.plan(desk, "30807");
        check.lock(desk, "30807");
    }

    private static void whatAGenerationGives(Check check) {
        for (String digits : new String[] {"90000", "00001", "12345", "98765", "50505", "01230"}) {
            PackageDesk desk = Desks.planning(digits);
            check.due("apply(-1)", desk.apply(-1), 1);
            check.due("current()", desk.current(), 1);
            check.generation(desk, 1, digits);
            Desks.withdraw(desk, digits);
            desk.solve();
            check.generation(desk, 1, digits);
        }
    }

    private static void sixKept(Check check) {
        PackageDesk desk = new PackageDesk();
        for (int number = 1; number <= 12; number++) {
            Desks.planFor(desk, 1 + number % 9);
            check.due("apply(-1)", desk.apply(-1), number);
            int kept = 0;
            for (int old = 0; old <= number; old++) {
                kept += desk.version(old, 0) >= 0 ? 1 : 0;
            }
            check.due("kept after generation " + number, kept, Math.min(number + 1, 6));
        }
    }

    private static void generationZero(Check check) {
        PackageDesk desk = new PackageDesk();
        check.due("current()", desk.current(), 0);
        check.generation(desk, 0, "00000");
        check.kept(desk, 0);
        check.due("rollback(0)", desk.rollback(0), 0);
        check.due("collect(1)", desk.collect(1), 0);
        desk.solve();
        check.steps(desk);
    }

    /** The packages 0 and 4, with what each method answers, and all that are not good. */
    private static void goodPackages(Check check) {
        for (int pack = 0; pack < 5; pack++) {
            PackageDesk desk = new PackageDesk();
            desk.solve();
            desk.lock();
            check.due("offer", desk.offer(pack, 1, 0), 1);
            check.due("demand of", desk.demand(true, 10 * pack + 1, (pack + 1) % 5, 11), 1);
            check.due("wish", desk.wish(false, pack, 11), 0);
            check.due("chosen", desk.chosen(pack), 0);
            check.due("possible", desk.possible(pack, 0), 1);
            check.due("locked", desk.locked(pack), 0);
            check.due("version", desk.version(0, pack), 0);
            check.due("withdraw", desk.withdraw(pack, 1), 0);
            check.due("demand on", offering((pack + 1) % 5, 1).demand(true, 10 * ((pack + 1) % 5) + 1, pack, 11), 1);
        }
        for (int pack : Wrong.PACKS) {
            PackageDesk desk = offering(0, 1);
            desk.offer(2, 1, 0);
            desk.solve();
            desk.lock();
            check.due("offer(" + pack + ", ..)", desk.offer(pack, 1, 0), BAD);
            check.due("withdraw(" + pack + ", ..)", desk.withdraw(pack, 1), BAD);
            check.due("demand(true, 1, " + pack + ", ..)", desk.demand(true, 1, pack, 11), BAD);
            check.due("demand(true, 21, " + pack + ", ..)", desk.demand(true, 21, pack, 11), BAD);
            check.due("wish(.., " + pack + ", ..)", desk.wish(true, pack, 11), BAD);
            check.due("chosen(" + pack + ")", desk.chosen(pack), BAD);
            check.due("possible(" + pack + ", ..)", desk.possible(pack, 0), BAD);
            check.due("locked(" + pack + ")", desk.locked(pack), BAD);
            check.due("version(.., " + pack + ")", desk.version(0, pack), BAD);
        }
    }

    private static void goodVersions(Check check) {
        for (int version = 1; version <= 9; version++) {
            PackageDesk desk = new PackageDesk();
            check.due("offer", desk.offer(2, version, 0), 1);
            check.due("demand", desk.demand(false, 20 + version, 1, 11), 1);
            check.due("possible", desk.possible(2, version), 1);
            check.due("withdraw", desk.withdraw(2, version), 0);
        }
        for (int version : Wrong.VERSIONS) {
            PackageDesk desk = offering(2, 1);
            check.due("offer(2, " + version + ", 0)", desk.offer(2, version, 0), BAD);
            check.due("withdraw(2, " + version + ")", desk.withdraw(2, version), BAD);
        }
        for (int pack = 0; pack < 5; pack++) {
            check.due("demand of version 0", offering(pack, 1).demand(true, 10 * pack, (pack + 1) % 5, 11), BAD);
        }
    }

    private static void goodRanges(Check check) {
        for (int lo = 1; lo <= 9; lo++) {
            for (int hi = 1; hi <= 9; hi++) {
                int range = 10 * lo + hi;
                check.due("demand in " + range, offering(3, 1).demand(true, 31, 0, range), lo <= hi ? 1 : BAD);
                check.due("wish in " + range, new PackageDesk().wish(true, 0, range), lo <= hi ? 0 : BAD);
            }
        }
    }
}
