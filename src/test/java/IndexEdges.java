/** The promises 1 to 4: a new object, offer, withdraw, demand. */
final class IndexEdges {
    private static final int BAD = PackageDesk.BAD;
    private static final int EXISTS = PackageDesk.EXISTS;
    private static final int FULL = PackageDesk.FULL;
    private static final int NONE = PackageDesk.NONE;

    private IndexEdges() {
    }

    static void add(Sentences document) {
        document.section("Promise 1: A new object");
        document.says("As said above", IndexEdges::newObject);
        document.says("As said above", IndexEdges::objectsStandApart);
        document.says("no wishes.", IndexEdges::noWishes);

        document.section("Promise 2: offer");
        document.says("Adds a version without demands.", IndexEdges::offersWithoutDemands);
        document.says("Adds a version without demands.", IndexEdges::offersAnewWithoutDemands);
        String bad = "pack or version is not good, or paths not 0 .. 255: BAD";
        document.says(bad, IndexEdges::offerOfAWrongPackage);
        document.says(bad, IndexEdges::offerOfAWrongVersion);
        document.says(bad, IndexEdges::offerOfWrongPaths);
        document.says("the index has it: EXISTS", IndexEdges::offerOfOneThatExists);
        document.says("it has four versions of pack: FULL.", IndexEdges::offerOfAFifth);
        document.says("Else answers how many it has of pack then.", IndexEdges::offerCounts);

        document.section("Promise 3: withdraw");
        document.says("Takes a version out", IndexEdges::withdraws);
        document.says("with its demands.", IndexEdges::withdrawsDemands);
        document.says("pack or version is not good: BAD", IndexEdges::withdrawalOfAWrongPackage);
        document.says("pack or version is not good: BAD", IndexEdges::withdrawalOfAWrongVersion);
        document.says("the index does not have it: NONE.", IndexEdges::withdrawalOfOneNotThere);
        document.says("Else answers how many it has of pack then.", IndexEdges::withdrawCounts);

        document.section("Promise 4: demand");
        document.says("Adds a demand to a version: a need or a clash, of the package other in a range.",
            IndexEdges::demandsOfOneVersion);
        document.says("of is 10 * pack + version.", IndexEdges::demandOfEveryVersion);
        document.says("pack (0 .. 4) or version is not good", IndexEdges::demandOfAWrongPackage);
        document.says("pack (0 .. 4) or version is not good", IndexEdges::demandOfAWrongVersion);
        document.says(", other is not good", IndexEdges::demandOnAWrongPackage);
        document.says(", other is pack", IndexEdges::demandOnItself);
        document.says(", or range is not good: BAD;", IndexEdges::demandInAWrongRange);
        document.says("the index does not have the version: NONE", IndexEdges::demandOfOneNotThere);
        document.says("it has three demands: FULL.", IndexEdges::aFourthDemand);
        document.says("it has three demands: FULL.", IndexEdges::threeDemandsOfEveryVersion);
        document.says("Else answers how many it has then.", IndexEdges::demandCounts);
        document.says("(of below 0 is the case of BAD.)", IndexEdges::demandOfBelowZero);
    }

    private static void newObject(Check check) {
        PackageDesk desk = new PackageDesk();
        check.due("solutions()", desk.solutions(), 1);
        check.due("current()", desk.current(), 0);
        check.generation(desk, 0, "00000");
        check.kept(desk, 0);
        check.noPlan(desk);
        check.noLock(desk);
        check.due("steps()", desk.steps(), NONE);
        check.due("step(0)", desk.step(0), NONE);
        check.due("lock()", desk.lock(), NONE);
        check.due("apply(-1)", desk.apply(-1), NONE);
        check.due("blame()", desk.blame(), NONE);
        check.due("collect(6)", desk.collect(6), 0);
        check.due("reuse()", desk.reuse(), 0);
        check.plan(desk, "00000");
        check.due("apply(-1)", desk.apply(-1), 0);
    }

    private static void objectsStandApart(Check check) {
        PackageDesk before = new PackageDesk();
        PackageDesk used = Desks.planning("12345");
        used.lock();
        used.apply(-1);
        used.wish(true, 0, 99);
        for (PackageDesk desk : new PackageDesk[] {before, new PackageDesk()}) {
            check.noPlan(desk);
            check.noLock(desk);
            check.kept(desk, 0);
            check.due("collect(1)", desk.collect(1), 0);
            check.due("solutions()", desk.solutions(), 1);
            check.due("unwish(0)", desk.unwish(0), BAD);
            check.due("offer(0, 1, 0)", desk.offer(0, 1, 0), 1);
        }
        check.plan(used, "12345");
        check.generation(used, 1, "12345");
    }

    private static void noWishes(Check check) {
        PackageDesk desk = new PackageDesk();
        check.due("unwish(0)", desk.unwish(0), BAD);
        check.due("blame()", desk.blame(), NONE);
        desk.offer(0, 1, 0);
        check.due("every choice is a solution", desk.solutions(), 2);
        check.due("the first wish", desk.wish(true, 0, 11), 0);
    }

    private static void offersWithoutDemands(Check check) {
        for (int pack = 0; pack < 5; pack++) {
            for (int version = 1; version <= 9; version++) {
                PackageDesk desk = new PackageDesk();
                desk.offer(pack, version, 0);
                desk.wish(true, pack, 11 * version);
                check.due("it can be chosen alone", desk.solve(), 1);
                check.due("its first demand", desk.demand(true, 10 * pack + version, (pack + 1) % 5, 11), 1);
            }
        }
    }

    private static void offersAnewWithoutDemands(Check check) {
        for (int many = 1; many <= 3; many++) {
            PackageDesk desk = new PackageDesk();
            desk.offer(3, 9, 0);
            for (int i = 0; i < many; i++) {
                desk.demand(true, 39, 1, 11);
            }
            check.due("its needs are not met", desk.possible(3, 9), 0);
            desk.withdraw(3, 9);
            desk.offer(3, 9, 0);
            check.due("it has no need any more", desk.possible(3, 9), 1);
            for (int i = 1; i <= 3; i++) {
                check.due("room for demand " + i, desk.demand(false, 39, 1, 11), i);
            }
            check.due("and for no more", desk.demand(false, 39, 1, 11), FULL);
        }
    }

    private static void offerOfAWrongPackage(Check check) {
        for (int pack : Wrong.PACKS) {
            PackageDesk desk = new PackageDesk();
            check.due("offer(" + pack + ", 1, 0)", desk.offer(pack, 1, 0), BAD);
            check.due("offer(" + pack + ", 9, 255)", desk.offer(pack, 9, 255), BAD);
            check.due("nothing is there", desk.solutions(), 1);
        }
        check.due("offer(0, 1, 0)", new PackageDesk().offer(0, 1, 0), 1);
        check.due("offer(4, 1, 0)", new PackageDesk().offer(4, 1, 0), 1);
    }

    private static void offerOfAWrongVersion(Check check) {
        for (int version : Wrong.VERSIONS) {
            for (int pack = 0; pack < 5; pack++) {
                PackageDesk desk = new PackageDesk();
                check.due("offer(" + pack + ", " + version + ", 0)", desk.offer(pack, version, 0), BAD);
                check.due("nothing is there", desk.solutions(), 1);
            }
        }
        check.due("offer(2, 1, 0)", new PackageDesk().offer(2, 1, 0), 1);
        check.due("offer(2, 9, 0)", new PackageDesk().offer(2, 9, 0), 1);
    }

    private static void offerOfWrongPaths(Check check) {
        for (int paths : Wrong.PATHS) {
            PackageDesk desk = new PackageDesk();
            check.due("offer(2, 5, " + paths + ")", desk.offer(2, 5, paths), BAD);
            check.due("nothing is there", desk.solutions(), 1);
        }
        check.due("paths 0", new PackageDesk().offer(2, 5, 0), 1);
        check.due("paths 255", new PackageDesk().offer(2, 5, 255), 1);
    }

    private static void offerOfOneThatExists(Check check) {
        for (int pack = 0; pack < 5; pack++) {
            for (int version = 1; version <= 9; version++) {
                PackageDesk desk = new PackageDesk();
                check.due("offer", desk.offer(pack, version, 0), 1);
                check.due("the same", desk.offer(pack, version, 0), EXISTS);
                check.due("with other paths", desk.offer(pack, version, 255), EXISTS);
                check.due("the same number of another package", desk.offer((pack + 1) % 5, version, 0), 1);
                check.due("another number", desk.offer(pack, version % 9 + 1, 0), 2);
                check.due("withdraw", desk.withdraw(pack, version), 1);
                check.due("it is not there any more", desk.offer(pack, version, 0), 2);
            }
        }
    }

    private static void offerOfAFifth(Check check) {
        for (int pack = 0; pack < 5; pack++) {
            PackageDesk desk = new PackageDesk();
            for (int version = 2; version <= 5; version++) {
                check.holds("there is room", desk.offer(pack, version, 0) > 0);
            }
            check.due("a fifth", desk.offer(pack, 1, 0), FULL);
            check.due("a fifth", desk.offer(pack, 9, 255), FULL);
            check.due("one of another package", desk.offer((pack + 3) % 5, 1, 0), 1);
            desk.withdraw(pack, 3);
            check.due("a fourth again", desk.offer(pack, 9, 0), 4);
            check.due("a fifth again", desk.offer(pack, 3, 0), FULL);
        }
    }

    private static void offerCounts(Check check) {
        PackageDesk desk = new PackageDesk();
        for (int round = 1; round <= 4; round++) {
            for (int pack = 0; pack < 5; pack++) {
                check.due("versions of " + pack, desk.offer(pack, 2 * round + 1, 0), round);
            }
        }
        desk.withdraw(2, 3);
        desk.withdraw(2, 5);
        desk.withdraw(2, 7);
        check.due("one was left", desk.offer(2, 1, 0), 2);
        desk.withdraw(2, 1);
        desk.withdraw(2, 9);
        check.due("none was left", desk.offer(2, 9, 0), 1);
    }

    private static void withdraws(Check check) {
        for (int pack = 0; pack < 5; pack++) {
            for (int version = 1; version <= 9; version++) {
                PackageDesk desk = new PackageDesk();
                desk.offer(pack, version, 0);
                desk.offer(pack, version % 9 + 1, 0);
                desk.withdraw(pack, version);
                check.due("it is out", desk.possible(pack, version), 0);
                check.due("the other one is not", desk.possible(pack, version % 9 + 1), 1);
                check.due("two choices are left", desk.solutions(), 2);
            }
        }
    }

    /** Its demands on others go; the demands of others on it stay. */
    private static void withdrawsDemands(Check check) {
        PackageDesk desk = new PackageDesk();
        desk.offer(0, 1, 0);
        desk.offer(1, 1, 0);
        desk.demand(false, 1, 1, 11);
        desk.demand(true, 11, 2, 11);
        check.due("neither both, nor 1 alone", desk.solutions(), 2);
        desk.withdraw(1, 1);
        desk.offer(1, 1, 0);
        check.due("the need is gone, the clash is there", desk.solutions(), 3);
        desk.withdraw(0, 1);
        desk.offer(0, 1, 0);
        check.due("the clash is gone", desk.solutions(), 4);
    }

    private static void withdrawalOfAWrongPackage(Check check) {
        for (int pack : Wrong.PACKS) {
            PackageDesk desk = new PackageDesk();
            for (int good = 0; good < 5; good++) {
                desk.offer(good, 1, 0);
            }
            for (int version = 1; version <= 9; version++) {
                check.due("withdraw(" + pack + ", " + version + ")", desk.withdraw(pack, version), BAD);
            }
            check.due("all are there", desk.solutions(), 32);
        }
    }

    private static void withdrawalOfAWrongVersion(Check check) {
        for (int version : Wrong.VERSIONS) {
            PackageDesk desk = new PackageDesk();
            for (int good = 0; good < 5; good++) {
                desk.offer(good, 1, 0);
            }
            for (int pack = 0; pack < 5; pack++) {
                check.due("withdraw(" + pack + ", " + version + ")", desk.withdraw(pack, version), BAD);
            }
            check.due("all are there", desk.solutions(), 32);
        }
    }

    private static void withdrawalOfOneNotThere(Check check) {
        PackageDesk desk = new PackageDesk();
        check.due("of an empty index", desk.withdraw(0, 1), NONE);
        check.due("the last one", desk.withdraw(4, 9), NONE);
        desk.offer(2, 5, 0);
        check.due("the number below", desk.withdraw(2, 4), NONE);
        check.due("the number above", desk.withdraw(2, 6), NONE);
        check.due("the same number of the package below", desk.withdraw(1, 5), NONE);
        check.due("the same number of the package above", desk.withdraw(3, 5), NONE);
        check.due("the one there", desk.withdraw(2, 5), 0);
        check.due("again", desk.withdraw(2, 5), NONE);
    }

    private static void withdrawCounts(Check check) {
        for (int pack = 0; pack < 5; pack++) {
            PackageDesk desk = new PackageDesk();
            for (int version = 1; version <= 4; version++) {
                desk.offer(pack, version, 0);
                desk.offer((pack + 1) % 5, version, 0);
            }
            check.due("three left", desk.withdraw(pack, 4), 3);
            check.due("two left", desk.withdraw(pack, 1), 2);
            check.due("one left", desk.withdraw(pack, 2), 1);
            check.due("none left", desk.withdraw(pack, 3), 0);
            check.due("of the other package", desk.withdraw((pack + 1) % 5, 3), 3);
        }
    }

    private static void demandsOfOneVersion(Check check) {
        for (int pack = 0; pack < 5; pack++) {
            for (int other = 0; other < 5; other++) {
                if (other != pack) {
                    PackageDesk desk = new PackageDesk();
                    for (int version = 1; version <= 4; version++) {
                        desk.offer(pack, version, 0);
                        desk.offer(other, version, 0);
                    }
                    check.due("a need", desk.demand(true, 10 * pack + 2, other, 23), 1);
                    check.due("25 less 3", desk.solutions(), 22);
                    check.due("a clash", desk.demand(false, 10 * pack + 4, other, 24), 1);
                    check.due("25 less 3 less 3", desk.solutions(), 19);
                }
            }
        }
    }

    private static void demandOfEveryVersion(Check check) {
        for (int pack = 0; pack < 5; pack++) {
            for (int version = 1; version <= 9; version++) {
                PackageDesk desk = new PackageDesk();
                desk.offer(pack, version, 0);
                desk.offer(pack, version % 9 + 1, 0);
                int of = 10 * pack + version;
                check.due("demand of " + of, desk.demand(true, of, (pack + 4) % 5, 19), 1);
                check.due("it is its need", desk.possible(pack, version), 0);
                check.due("and not another's", desk.possible(pack, version % 9 + 1), 1);
            }
        }
    }

    private static void demandOfAWrongPackage(Check check) {
        for (int of : new int[] {50, 51, 55, 59, 60, 61, 99, 100, 101, 257, 65537, Integer.MAX_VALUE}) {
            PackageDesk desk = Desks.planning("11111");
            check.due("demand of " + of, desk.demand(true, of, 0, 99), BAD);
            check.due("demand of " + of, desk.demand(true, of, 1, 99), BAD);
            check.due("no demand was added", desk.solutions(), 32);
        }
        check.due("demand of 1", Desks.planning("10000").demand(true, 1, 1, 99), 1);
        check.due("demand of 49", Desks.planning("00009").demand(true, 49, 1, 99), 1);
    }

    private static void demandOfAWrongVersion(Check check) {
        for (int of = 0; of <= 50; of += 10) {
            for (String digits : new String[] {"11111", "99999"}) {
                PackageDesk desk = Desks.planning(digits);
                int other = of == 0 ? 1 : 0;
                check.due("demand of " + of, desk.demand(true, of, other, 99), BAD);
                check.due("no demand was added", desk.solutions(), 32);
            }
        }
    }

    private static void demandOnAWrongPackage(Check check) {
        for (int other : Wrong.PACKS) {
            PackageDesk desk = Desks.planning("10001");
            check.due("demand(true, 1, " + other + ", 19)", desk.demand(true, 1, other, 19), BAD);
            check.due("demand(false, 41, " + other + ", 19)", desk.demand(false, 41, other, 19), BAD);
            check.due("no demand was added", desk.solutions(), 4);
        }
        check.due("on 0", Desks.planning("10001").demand(true, 41, 0, 19), 1);
        check.due("on 4", Desks.planning("10001").demand(true, 1, 4, 19), 1);
    }

    private static void demandOnItself(Check check) {
        for (int pack = 0; pack < 5; pack++) {
            for (int version = 1; version <= 9; version++) {
                PackageDesk desk = new PackageDesk();
                desk.offer(pack, version, 0);
                check.due("a need", desk.demand(true, 10 * pack + version, pack, 19), BAD);
                check.due("a clash", desk.demand(false, 10 * pack + version, pack, 19), BAD);
                check.due("no demand was added", desk.solutions(), 2);
            }
        }
    }

    private static void demandInAWrongRange(Check check) {
        for (int range : Wrong.RANGES) {
            PackageDesk desk = Desks.planning("10001");
            check.due("a need in " + range, desk.demand(true, 1, 4, range), BAD);
            check.due("a clash in " + range, desk.demand(false, 1, 4, range), BAD);
            check.due("no demand was added", desk.solutions(), 4);
        }
        for (int range : new int[] {11, 19, 99, 12, 89, 55}) {
            check.due("in " + range, Desks.planning("10001").demand(true, 1, 4, range), 1);
        }
    }

    private static void demandOfOneNotThere(Check check) {
        PackageDesk desk = Desks.planning("00500");
        check.due("the number below", desk.demand(true, 24, 0, 19), NONE);
        check.due("the number above", desk.demand(true, 26, 0, 19), NONE);
        check.due("the same number of the package below", desk.demand(true, 15, 0, 19), NONE);
        check.due("the same number of the package above", desk.demand(true, 35, 0, 19), NONE);
        check.due("the one there", desk.demand(true, 25, 0, 19), 1);
        desk.withdraw(2, 5);
        check.due("it has gone", desk.demand(true, 25, 0, 19), NONE);
        desk.offer(2, 4, 0);
        check.due("another has come", desk.demand(true, 25, 0, 19), NONE);
    }

    private static void aFourthDemand(Check check) {
        PackageDesk desk = Desks.planning("10001");
        check.due("the first", desk.demand(false, 1, 1, 19), 1);
        check.due("the second", desk.demand(false, 1, 2, 19), 2);
        check.due("the third", desk.demand(false, 1, 3, 19), 3);
        check.due("a fourth", desk.demand(true, 1, 4, 99), FULL);
        check.due("a fourth", desk.demand(false, 1, 4, 11), FULL);
        check.due("it was not added", desk.solutions(), 4);
        check.due("another version has room", desk.demand(false, 41, 0, 11), 1);
        desk.withdraw(0, 1);
        desk.offer(0, 1, 0);
        check.due("a version that comes anew has room", desk.demand(false, 1, 4, 99), 1);
    }

    /** All three count, and the fourth does not, whichever version has them. */
    private static void threeDemandsOfEveryVersion(Check check) {
        for (int pack = 0; pack < 5; pack++) {
            for (int version = 1; version <= 9; version++) {
                PackageDesk desk = new PackageDesk();
                desk.offer(pack, version, 0);
                for (int i = 1; i <= 3; i++) {
                    int other = (pack + i) % 5;
                    desk.offer(other, 2 * i, 0);
                    check.due("demand " + i, desk.demand(i != 2, 10 * pack + version, other, 22 * i), i);
                }
                check.due("a fourth", desk.demand(true, 10 * pack + version, (pack + 4) % 5, 19), FULL);
                check.due("it alone takes the first and the third along", desk.solutions(), 9);
                desk.wish(true, pack, 19);
                check.due("the first", desk.possible((pack + 1) % 5, 0), 0);
                check.due("the second", desk.possible((pack + 2) % 5, 4), 0);
                check.due("the third", desk.possible((pack + 3) % 5, 0), 0);
            }
        }
    }

    private static void demandCounts(Check check) {
        PackageDesk desk = Desks.planning("11111");
        for (int round = 1; round <= 3; round++) {
            for (int pack = 0; pack < 5; pack++) {
                int many = desk.demand(round == 2, 10 * pack + 1, (pack + round) % 5, 19);
                check.due("demand of " + pack + "1", many, round);
            }
        }
        PackageDesk same = Desks.planning("10000");
        for (int many = 1; many <= 3; many++) {
            check.due("the same demand again", same.demand(true, 1, 3, 19), many);
        }
    }

    private static void demandOfBelowZero(Check check) {
        for (int of = -1; of >= -120; of--) {
            PackageDesk desk = Desks.planning("11111");
            for (int other = 0; other < 5; other++) {
                check.due("demand of " + of + " on " + other, desk.demand(true, of, other, 99), BAD);
            }
            check.due("no demand was added", desk.solutions(), 32);
        }
        for (int of : new int[] {-65535, Integer.MIN_VALUE, Integer.MIN_VALUE + 1, Integer.MIN_VALUE + 9}) {
            check.due("demand of " + of, Desks.planning("11111").demand(true, of, 1, 99), BAD);
        }
    }
}
