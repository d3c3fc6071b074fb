/** The promises 7 to 11: solve, chosen, solutions, possible, blame. */
final class SolveEdges {
    private static final int BAD = PackageDesk.BAD;
    private static final int NONE = PackageDesk.NONE;

    private SolveEdges() {
    }

    static void add(Sentences document) {
        document.section("Promise 7: solve");
        document.says("The plan becomes the best solution", SolveEdges::bestOfAll);
        document.says("The plan becomes the best solution", SolveEdges::planIsMadeAnew);
        document.says("answers how many packages have a version in it.", SolveEdges::solveCounts);
        document.says("If there is no solution: NONE", SolveEdges::solveFindsNothing);
        document.says(", and there is no plan then.", SolveEdges::noPlanThen);

        document.section("Promise 8: chosen");
        document.says("The version that the plan gives a package, 0 for none.", SolveEdges::whatThePlanGives);
        document.says("pack is not good: BAD", SolveEdges::chosenOfAWrongPackage);
        document.says("there is no plan: NONE.", SolveEdges::chosenWithoutPlan);

        document.section("Promise 9: solutions");
        document.says("How many solutions there are.", SolveEdges::noSolution);
        document.says("How many solutions there are.", SolveEdges::oneSolution);
        document.says("How many solutions there are.", SolveEdges::mostSolutions);
        document.says("How many solutions there are.", SolveEdges::solutionsOfNow);

        document.section("Promise 10: possible");
        document.says("1 if some solution gives the package the version (0: none), else 0.",
            SolveEdges::possibleVersions);
        document.says("1 if some solution gives the package the version (0: none), else 0.",
            SolveEdges::possibleNone);
        document.says("1 if some solution gives the package the version (0: none), else 0.",
            SolveEdges::nothingIsPossibleWithoutSolution);
        document.says("pack is not good", SolveEdges::possibleOfAWrongPackage);
        document.says(", or version is not 0 .. 9: BAD.", SolveEdges::possibleOfAWrongVersion);

        document.section("Promise 11: blame");
        document.says("The least set of wishes (bit i for wish i) that no sound choice meets all of",
            SolveEdges::oneWishToBlame);
        document.says(": with the fewest wishes", SolveEdges::fewestWishes);
        document.says(": with the fewest wishes", SolveEdges::threeWishesToBlame);
        document.says(": with the fewest wishes", SolveEdges::fourWishesToBlame);
        document.says(", and of these the least number.", SolveEdges::leastOfThePairs);
        document.says(", and of these the least number.", SolveEdges::leastOfTheThrees);
        document.says("NONE if there is a solution.", SolveEdges::nobodyToBlame);
    }

    /** Package 0 is wanted; its versions 8, 6 and 4 have faults, and 2 has none. */
    private static void bestOfAll(Check check) {
        PackageDesk desk = new PackageDesk();
        desk.offer(0, 8, 0);
        desk.offer(0, 6, 0);
        desk.offer(0, 4, 0);
        desk.offer(0, 2, 1);
        desk.offer(3, 5, 1);
        desk.wish(true, 0, 19);
        desk.wish(false, 0, 69);
        desk.demand(true, 4, 1, 19);
        check.due("the last version that is left", desk.solve(), 1);
        check.plan(desk, "20000");
        desk.offer(1, 3, 0);
        desk.offer(1, 7, 0);
        check.due("the need is met", desk.solve(), 2);
        check.plan(desk, "47000");
        desk.demand(false, 17, 3, 11);
        desk.demand(true, 17, 3, 55);
        check.due("first the greatest of 1, then 3", desk.solve(), 3);
        check.plan(desk, "47050");
        desk.wish(false, 3, 19);
        check.due("then the lesser of 1", desk.solve(), 2);
        check.plan(desk, "43000");
    }

    private static void planIsMadeAnew(Check check) {
        PackageDesk desk = Desks.planning("98765");
        check.plan(desk, "98765");
        check.due("solve()", desk.solve(), 0);
        check.plan(desk, "00000");
        desk.wish(true, 4, 55);
        check.due("solve()", desk.solve(), 1);
        check.plan(desk, "00005");
        desk.wish(true, 2, 77);
        check.due("solve()", desk.solve(), 2);
        check.plan(desk, "00705");
        check.due("solve() again", desk.solve(), 2);
        check.plan(desk, "00705");
    }

    private static void solveCounts(Check check) {
        for (int many = 0; many <= 5; many++) {
            PackageDesk desk = new PackageDesk();
            for (int pack = 0; pack < 5; pack++) {
                desk.offer(pack, 9 - pack, 0);
                if (pack > 0 && pack < many) {
                    desk.demand(true, 10 * (pack - 1) + 10 - pack, pack, 19);
                }
            }
            if (many > 0) {
                desk.wish(true, 0, 19);
            }
            check.due("solve()", desk.solve(), many);
            check.plan(desk, "98765".substring(0, many) + "00000".substring(many));
        }
    }

    private static void solveFindsNothing(Check check) {
        PackageDesk empty = new PackageDesk();
        empty.wish(true, 0, 19);
        check.due("nothing in the index", empty.solve(), NONE);
        PackageDesk both = Desks.planning("10000");
        both.wish(true, 0, 11);
        both.wish(false, 0, 11);
        check.due("to have and to avoid", both.solve(), NONE);
        PackageDesk need = Desks.planning("10000");
        need.wish(true, 0, 11);
        need.demand(true, 1, 4, 19);
        check.due("a need that nothing meets", need.solve(), NONE);
        PackageDesk clash = Desks.planning("10001");
        clash.wish(true, 0, 11);
        clash.wish(true, 4, 11);
        clash.demand(false, 41, 0, 11);
        check.due("a clash", clash.solve(), NONE);
        PackageDesk paths = new PackageDesk();
        paths.offer(0, 1, 128);
        paths.offer(4, 1, 128);
        paths.wish(true, 0, 11);
        check.due("one of the two", paths.solve(), 1);
        paths.wish(true, 4, 11);
        check.due("a path in common", paths.solve(), NONE);
    }

    private static void noPlanThen(Check check) {
        PackageDesk desk = Desks.planning("12345");
        desk.wish(true, 0, 99);
        check.plan(desk, "12345");
        check.due("solve()", desk.solve(), NONE);
        check.noPlan(desk);
        check.due("lock()", desk.lock(), NONE);
        check.due("steps()", desk.steps(), NONE);
        check.due("step(0)", desk.step(0), NONE);
        check.due("apply(-1)", desk.apply(-1), NONE);
        desk.unwish(0);
        check.noPlan(desk);
        check.due("solve()", desk.solve(), 0);
        check.plan(desk, "00000");
    }

    private static void whatThePlanGives(Check check) {
        for (String digits : new String[] {"00000", "90000", "00001", "12345", "98765", "02040"}) {
            PackageDesk desk = Desks.planning(digits);
            for (int pack = 0; pack < 5; pack++) {
                check.due("chosen(" + pack + ") of " + digits, desk.chosen(pack), digits.charAt(pack) - '0');
            }
        }
    }

    private static void chosenOfAWrongPackage(Check check) {
        for (int pack : Wrong.PACKS) {
            check.due("with a plan, chosen(" + pack + ")", Desks.planning("12345").chosen(pack), BAD);
            check.due("without, chosen(" + pack + ")", new PackageDesk().chosen(pack), BAD);
        }
    }

    private static void chosenWithoutPlan(Check check) {
        check.noPlan(new PackageDesk());
        PackageDesk desk = Desks.planning("12345");
        desk.wish(true, 0, 99);
        desk.solve();
        check.noPlan(desk);
        desk.rollback(0);
        desk.collect(1);
        check.noPlan(desk);
    }

    private static void noSolution(Check check) {
        PackageDesk desk = new PackageDesk();
        desk.wish(true, 4, 19);
        check.due("nothing in the index", desk.solutions(), 0);
        desk.offer(4, 5, 0);
        check.due("one", desk.solutions(), 1);
        desk.wish(false, 4, 55);
        check.due("to have and to avoid", desk.solutions(), 0);
    }

    private static void oneSolution(Check check) {
        PackageDesk desk = new PackageDesk();
        check.due("none to all", desk.solutions(), 1);
        for (int pack = 0; pack < 4; pack++) {
            desk.offer(pack, 1, 0);
            desk.offer(pack, 2, 0);
            desk.wish(pack % 2 == 0, pack, pack % 2 == 0 ? 22 : 19);
        }
        check.due("four wishes leave one", desk.solutions(), 1);
    }

    private static void mostSolutions(Check check) {
        PackageDesk desk = new PackageDesk();
        int choices = 1;
        for (int pack = 0; pack < 5; pack++) {
            for (int many = 1; many <= 4; many++) {
                desk.offer(pack, 10 - 2 * many, 0);
                check.due(many + " versions of " + pack, desk.solutions(), choices * (many + 1));
            }
            choices *= 5;
        }
        desk.wish(true, 4, 22);
        check.due("one version of the last alone", desk.solutions(), 625);
        desk.wish(false, 0, 88);
        check.due("all but one of the first", desk.solutions(), 500);
    }

    /** What was found before does not count: the index may be another one now. */
    private static void solutionsOfNow(Check check) {
        PackageDesk desk = new PackageDesk();
        for (int pack = 0; pack < 5; pack++) {
            desk.offer(pack, 5, 0);
            desk.wish(true, pack, 55);
            check.due("solve()", desk.solve(), 1);
            desk.withdraw(pack, 5);
            check.due("solutions() without the version of the plan", desk.solutions(), 0);
            desk.offer(pack, 5, 0);
            check.due("possible(" + pack + ", 5)", desk.possible(pack, 5), 1);
            desk.withdraw(pack, 5);
            check.due("solutions() without the version just found", desk.solutions(), 0);
            desk.unwish(0);
            check.due("solutions()", desk.solutions(), 1);
        }
    }

    private static void possibleVersions(Check check) {
        PackageDesk desk = new PackageDesk();
        desk.offer(0, 1, 0);
        desk.offer(0, 9, 0);
        desk.offer(1, 5, 0);
        check.due("version 1", desk.possible(0, 1), 1);
        check.due("version 9", desk.possible(0, 9), 1);
        check.due("not in the index", desk.possible(0, 5), 0);
        check.due("in the index for another package", desk.possible(1, 9), 0);
        desk.demand(true, 9, 1, 55);
        desk.wish(false, 1, 19);
        check.due("by what it needs", desk.possible(0, 9), 0);
        check.due("avoided", desk.possible(1, 5), 0);
        check.due("though not the best", desk.possible(0, 1), 1);
        desk.withdraw(0, 1);
        check.due("taken out", desk.possible(0, 1), 0);
    }

    private static void possibleNone(Check check) {
        for (int pack = 0; pack < 5; pack++) {
            PackageDesk desk = new PackageDesk();
            check.due("possible(" + pack + ", 0) of an empty index", desk.possible(pack, 0), 1);
            desk.offer(pack, 7, 0);
            check.due("possible(" + pack + ", 0)", desk.possible(pack, 0), 1);
            desk.wish(true, pack, 19);
            check.due("wanted: possible(" + pack + ", 0)", desk.possible(pack, 0), 0);
            check.due("possible(" + pack + ", 7)", desk.possible(pack, 7), 1);
            check.due("another: possible(.., 0)", desk.possible((pack + 1) % 5, 0), 1);
        }
    }

    private static void nothingIsPossibleWithoutSolution(Check check) {
        PackageDesk desk = Desks.planning("12345");
        desk.wish(true, 0, 99);
        for (int pack = 0; pack < 5; pack++) {
            for (int version = 0; version <= 9; version++) {
                check.due("possible(" + pack + ", " + version + ")", desk.possible(pack, version), 0);
            }
        }
    }

    private static void possibleOfAWrongPackage(Check check) {
        for (int pack : Wrong.PACKS) {
            check.due("possible(" + pack + ", 0)", new PackageDesk().possible(pack, 0), BAD);
            check.due("possible(" + pack + ", 1)", Desks.planning("11111").possible(pack, 1), BAD);
        }
        check.due("possible(0, 1)", Desks.planning("11111").possible(0, 1), 1);
        check.due("possible(4, 1)", Desks.planning("11111").possible(4, 1), 1);
    }

    private static void possibleOfAWrongVersion(Check check) {
        for (int version : Wrong.VERSIONS) {
            for (int pack = 0; pack < 5; pack++) {
                int due = version == 0 ? 1 : BAD;
                check.due("possible(" + pack + ", " + version + ")", new PackageDesk().possible(pack, version), due);
            }
        }
        check.due("version 9", Desks.planning("90000").possible(0, 9), 1);
        check.due("version 9 not there", new PackageDesk().possible(0, 9), 0);
    }

    private static void oneWishToBlame(Check check) {
        for (int many = 1; many <= 4; many++) {
            for (int wrong = 0; wrong < many; wrong++) {
                PackageDesk desk = new PackageDesk();
                for (int i = 0; i < many; i++) {
                    desk.wish(i == wrong, i, 19);
                }
                check.due("wish " + wrong + " of " + many, desk.blame(), 1 << wrong);
            }
        }
        PackageDesk sound = Desks.planning("10000");
        sound.demand(true, 1, 1, 19);
        sound.wish(true, 0, 11);
        check.due("a choice that is not sound does not count", sound.blame(), 1);
    }

    /** Wish i is to have package i; which of them are not in the index, and which clash, decides. */
    private static void fewestWishes(Check check) {
        int[] pairs = {3, 5, 6, 9, 10, 12};
        for (int absent = 0; absent < 16; absent++) {
            for (int clashes = 0; clashes < 64; clashes++) {
                PackageDesk desk = new PackageDesk();
                for (int pack = 0; pack < 4; pack++) {
                    if ((absent >> pack & 1) == 0) {
                        desk.offer(pack, 1, 0);
                    }
                    desk.wish(true, pack, 11);
                }
                int due = absent != 0 ? absent & -absent : NONE;
                for (int i = 0; i < pairs.length; i++) {
                    if ((clashes >> i & 1) != 0) {
                        clash(desk, pairs[i]);
                        due = due == NONE ? pairs[i] : due;
                    }
                }
                check.due("absent " + absent + ", clashes " + clashes, desk.blame(), due);
            }
        }
    }

    /** Lets the lesser package of a pair clash with the greater one. */
    private static void clash(PackageDesk desk, int pair) {
        int lesser = Integer.numberOfTrailingZeros(pair);
        int greater = 31 - Integer.numberOfLeadingZeros(pair);
        desk.demand(false, 10 * lesser + 1, greater, 11);
    }

    /** Package c has one version that clashes with a, and one that clashes with b. */
    private static void eitherOr(PackageDesk desk, int c, int a, int b) {
        desk.offer(c, 1, 0);
        desk.offer(c, 2, 0);
        desk.demand(false, 10 * c + 1, a, 19);
        desk.demand(false, 10 * c + 2, b, 19);
    }

    private static void threeWishesToBlame(Check check) {
        for (int left = 0; left < 4; left++) {
            PackageDesk desk = new PackageDesk();
            int[] three = new int[3];
            int many = 0;
            for (int i = 0; i < 4; i++) {
                desk.wish(true, i, 19);
                if (i != left) {
                    three[many++] = i;
                }
            }
            desk.offer(left, 1, 0);
            desk.offer(three[0], 1, 0);
            desk.offer(three[1], 1, 0);
            eitherOr(desk, three[2], three[0], three[1]);
            check.due("all but wish " + left, desk.blame(), 15 - (1 << left));
        }
    }

    private static void fourWishesToBlame(Check check) {
        for (int have = 0; have < 4; have++) {
            PackageDesk desk = new PackageDesk();
            int version = 1;
            for (int i = 0; i < 4; i++) {
                if (i == have) {
                    desk.wish(true, 2, 19);
                } else {
                    desk.offer(2, version, 0);
                    desk.wish(false, 2, 11 * version);
                    version++;
                }
            }
            check.due("each of the four is to blame", desk.blame(), 15);
            desk.offer(2, 9, 0);
            check.due("one version more", desk.blame(), NONE);
        }
    }

    private static void leastOfThePairs(Check check) {
        PackageDesk desk = Desks.planning("11110");
        for (int pack = 0; pack < 4; pack++) {
            desk.wish(true, pack, 11);
        }
        int[] pairs = {12, 10, 9, 6, 5, 3};
        for (int pair : pairs) {
            clash(desk, pair);
            check.due("the pair added last is the least", desk.blame(), pair);
        }
        PackageDesk single = new PackageDesk();
        for (int pack = 3; pack >= 0; pack--) {
            single.wish(true, pack, 11);
        }
        check.due("of single ones the first", single.blame(), 1);
    }

    private static void leastOfTheThrees(Check check) {
        PackageDesk desk = Desks.planning("11000");
        eitherOr(desk, 2, 0, 1);
        eitherOr(desk, 3, 0, 1);
        for (int pack = 0; pack < 4; pack++) {
            desk.wish(true, pack, 19);
        }
        check.due("7 and 11", desk.blame(), 7);
        PackageDesk later = Desks.planning("11000");
        eitherOr(later, 2, 0, 1);
        eitherOr(later, 3, 0, 1);
        later.wish(true, 2, 19);
        later.wish(true, 0, 19);
        later.wish(true, 3, 19);
        later.wish(true, 1, 19);
        check.due("11 and 14", later.blame(), 11);
    }

    private static void nobodyToBlame(Check check) {
        PackageDesk desk = Desks.planning("11110");
        check.due("no wishes", desk.blame(), NONE);
        for (int pack = 0; pack < 4; pack++) {
            desk.wish(true, pack, 11);
            check.due("wishes that are met", desk.blame(), NONE);
        }
        desk.withdraw(3, 1);
        check.due("one that is not", desk.blame(), 8);
        desk.unwish(3);
        check.due("without it", desk.blame(), NONE);
    }
}
