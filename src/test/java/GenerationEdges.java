/** The promises 17 to 21: apply, current, version, rollback, collect. */
final class GenerationEdges {
    private static final int BAD = PackageDesk.BAD;
    private static final int NONE = PackageDesk.NONE;
    private static final int[] NO_STOPS = {-1, -2, -256, Integer.MIN_VALUE, Integer.MAX_VALUE};
    /** 5 * 858993460 wraps around to 4, and 256 and 65536 end in zero bits. */
    private static final int[] NO_NUMBERS = {
        -1, -2, 7, 10, 256, 257, 65536, 858993459, 858993460, Integer.MIN_VALUE, Integer.MAX_VALUE};

    private GenerationEdges() {
    }

    static void add(Sentences document) {
        document.section("Promise 17: apply");
        document.says("Carries the steps out.", GenerationEdges::carriesOut);
        document.says("There is no plan: NONE.", GenerationEdges::applyWithoutPlan);
        document.says("There are no steps: answers the number of the current generation.", GenerationEdges::noSteps);
        document.says("There are no steps: answers the number of the current generation.",
            GenerationEdges::noStepsFromAnOlderOne);
        document.says("If stop is 0 or more and less than the number of steps, a crash comes after that many steps",
            GenerationEdges::everyStop);
        document.says(": nothing has changed, and the answer is NONE too.", GenerationEdges::crashChangesNothing);
        document.says("Else a new generation, which gives what the plan gives, is kept and is the current one;",
            GenerationEdges::newGeneration);
        String number = "its number is greater by 1 than the greatest number that was given so far, and is the answer.";
        document.says(number, GenerationEdges::numbersRise);
        document.says(number, GenerationEdges::numbersAfterRollback);
        document.says(number, GenerationEdges::numbersAfterCollect);
        document.says(number, GenerationEdges::crashesTakeNoNumber);
        String six = "If six were kept before, the one with the least number, of those that were not current, is kept"
            + " no more.";
        document.says(six, GenerationEdges::fiveWereKept);
        document.says(six, GenerationEdges::sixWereKept);
        document.says(six, GenerationEdges::leastIsCurrent);
        document.says(six, GenerationEdges::sixOfManyNumbers);

        document.section("Promise 18: current");
        document.says("The number of the current generation.", GenerationEdges::currentNumber);

        document.section("Promise 19: version");
        document.says("The version that a kept generation gives a package, 0 for none.", GenerationEdges::versions);
        document.says("pack is not good: BAD", GenerationEdges::versionOfAWrongPackage);
        String notKept = "no generation with this number (any int) is kept: NONE.";
        document.says(notKept, GenerationEdges::versionOfNoGeneration);
        document.says(notKept, GenerationEdges::versionOfOneThatWasKept);

        document.section("Promise 20: rollback");
        document.says("A kept generation becomes the current one.", GenerationEdges::rollsBack);
        document.says("None with this number is kept: NONE.", GenerationEdges::rollbackToNoGeneration);
        document.says("None with this number is kept: NONE.", GenerationEdges::rollbackToOneThatWasKept);
        document.says("Else answers how many packages have another version, or none, in it than in the one that was"
            + " current.", GenerationEdges::rollbackCounts);
        document.says("Else answers how many packages have another version, or none, in it than in the one that was"
            + " current.", GenerationEdges::rollbackToItself);

        document.section("Promise 21: collect");
        document.says("Of the kept generations only the many with the greatest numbers, and the current one, are kept.",
            GenerationEdges::everyCollect);
        document.says("Of the kept generations only the many with the greatest numbers, and the current one, are kept.",
            GenerationEdges::collectAmongGaps);
        document.says("many is not 1 .. 6: BAD.", GenerationEdges::wrongMany);
        document.says("Else answers how many are kept no more by that.", GenerationEdges::collectCounts);
    }

    /** Plans that are n steps away from the generation that gives 11111, for n of 0 .. 10. */
    private static final String[] PLANS = {
        "11111", "11110", "11112", "01112", "11122", "01122", "11222", "01222", "12222", "02222", "22222"};

    private static PackageDesk stepsAway(int many) {
        PackageDesk desk = Desks.holding("11111");
        Desks.plan(desk, PLANS[many]);
        return desk;
    }

    private static void carriesOut(Check check) {
        for (int many = 0; many <= 10; many++) {
            PackageDesk desk = stepsAway(many);
            check.due("steps()", desk.steps(), many);
            check.due("apply(-1)", desk.apply(-1), many == 0 ? 1 : 2);
            check.generation(desk, desk.current(), PLANS[many]);
            check.steps(desk);
            check.plan(desk, PLANS[many]);
        }
    }

    private static void applyWithoutPlan(Check check) {
        for (int stop = -2; stop <= 11; stop++) {
            PackageDesk desk = Desks.holding("11111");
            desk.wish(true, 0, 99);
            desk.solve();
            check.due("apply(" + stop + ")", desk.apply(stop), NONE);
            check.kept(desk, 0, 1);
            check.due("current()", desk.current(), 1);
            check.due("apply(" + stop + ") of a new desk", new PackageDesk().apply(stop), NONE);
        }
        check.due("apply of the greatest int", new PackageDesk().apply(Integer.MAX_VALUE), NONE);
        check.due("apply of the least int", new PackageDesk().apply(Integer.MIN_VALUE), NONE);
    }

    private static void noSteps(Check check) {
        for (int stop : new int[] {-1, 0, 1, 9, 10, Integer.MIN_VALUE, Integer.MAX_VALUE}) {
            PackageDesk first = new PackageDesk();
            first.solve();
            check.due("an empty plan, apply(" + stop + ")", first.apply(stop), 0);
            check.kept(first, 0);
            PackageDesk desk = Desks.keeping(5);
            check.due("the plan is in place, apply(" + stop + ")", desk.apply(stop), 5);
            check.kept(desk, 0, 1, 2, 3, 4, 5);
        }
    }

    private static void noStepsFromAnOlderOne(Check check) {
        for (int old = 1; old <= 5; old++) {
            PackageDesk desk = Desks.keeping(5);
            desk.rollback(old);
            Desks.planFor(desk, old);
            check.due("apply(-1) at " + old, desk.apply(-1), old);
            check.due("apply(0) at " + old, desk.apply(0), old);
            check.kept(desk, 0, 1, 2, 3, 4, 5);
        }
        PackageDesk empty = Desks.keeping(5);
        empty.rollback(0);
        empty.solve();
        check.due("apply(0) at 0", empty.apply(0), 0);
    }

    private static void everyStop(Check check) {
        for (int many = 1; many <= 10; many++) {
            for (int stop = 0; stop <= 12; stop++) {
                PackageDesk desk = stepsAway(many);
                check.due("apply(" + stop + ") of " + many, desk.apply(stop), stop < many ? NONE : 2);
                check.due("current()", desk.current(), stop < many ? 1 : 2);
            }
            for (int stop : NO_STOPS) {
                check.due("apply(" + stop + ") of " + many, stepsAway(many).apply(stop), 2);
            }
        }
    }

    private static void crashChangesNothing(Check check) {
        for (int many = 1; many <= 10; many++) {
            for (int stop = 0; stop < many; stop++) {
                int at = stop;
                int away = many;
                String changed = Twin.changedBy(() -> stepsAway(away), desk -> desk.apply(at));
                check.holds("a crash after " + at + " of " + away + " steps: " + changed, changed.isEmpty());
            }
        }
        PackageDesk full = Desks.keeping(5);
        full.rollback(2);
        Desks.planFor(full, 9);
        check.due("a crash when six are kept", full.apply(1), NONE);
        check.kept(full, 0, 1, 2, 3, 4, 5);
        check.due("current()", full.current(), 2);
        check.generation(full, 2, "20000");
        check.steps(full, 102, 209);
    }

    private static void newGeneration(Check check) {
        PackageDesk desk = new PackageDesk();
        String[] plans = {"10000", "12345", "00009", "98760", "00000", "55555", "05050"};
        for (int i = 0; i < plans.length; i++) {
            Desks.plan(desk, plans[i]);
            check.due("apply(-1)", desk.apply(-1), i + 1);
            check.due("current()", desk.current(), i + 1);
            check.generation(desk, i + 1, plans[i]);
            Desks.withdraw(desk, plans[i]);
        }
        for (int i = 2; i <= plans.length; i++) {
            check.generation(desk, i, plans[i - 1]);
        }
    }

    private static void numbersRise(Check check) {
        PackageDesk desk = new PackageDesk();
        for (int number = 1; number <= 60; number++) {
            Desks.planFor(desk, 1 + number % 9);
            check.due("apply(-1)", desk.apply(-1), number);
        }
    }

    private static void numbersAfterRollback(Check check) {
        for (int old = 0; old <= 4; old++) {
            PackageDesk desk = Desks.keeping(4);
            desk.rollback(old);
            Desks.planFor(desk, 9);
            check.due("apply(-1) at " + old, desk.apply(-1), 5);
            desk.rollback(old);
            check.due("apply(-1) at " + old + " again", desk.apply(-1), 6);
        }
    }

    private static void numbersAfterCollect(Check check) {
        for (int old = 0; old <= 5; old++) {
            PackageDesk desk = Desks.keeping(5);
            desk.rollback(old);
            desk.collect(1);
            Desks.planFor(desk, 9);
            check.due("apply(-1) at " + old, desk.apply(-1), 6);
            desk.collect(1);
            check.kept(desk, 6);
            Desks.planFor(desk, 8);
            check.due("apply(-1)", desk.apply(-1), 7);
        }
    }

    private static void crashesTakeNoNumber(Check check) {
        PackageDesk desk = Desks.keeping(1);
        Desks.planFor(desk, 9);
        check.due("apply(0)", desk.apply(0), NONE);
        check.due("apply(1)", desk.apply(1), NONE);
        check.due("apply(2)", desk.apply(2), 2);
        check.due("no steps", desk.apply(-1), 2);
        check.due("no steps", desk.apply(0), 2);
        Desks.planFor(desk, 8);
        check.due("apply(-1)", desk.apply(-1), 3);
    }

    private static void fiveWereKept(Check check) {
        for (int old = 0; old <= 4; old++) {
            PackageDesk desk = Desks.keeping(4);
            desk.rollback(old);
            Desks.planFor(desk, 9);
            check.due("apply(-1)", desk.apply(-1), 5);
            check.kept(desk, 0, 1, 2, 3, 4, 5);
        }
    }

    private static void sixWereKept(Check check) {
        for (int old = 1; old <= 5; old++) {
            PackageDesk desk = Desks.keeping(5);
            desk.rollback(old);
            Desks.planFor(desk, 9);
            check.due("apply(-1) at " + old, desk.apply(-1), 6);
            check.kept(desk, 1, 2, 3, 4, 5, 6);
            for (int number = 1; number <= 5; number++) {
                check.generation(desk, number, number + "0000");
            }
            check.generation(desk, 6, "90000");
        }
    }

    private static void leastIsCurrent(Check check) {
        PackageDesk desk = Desks.keeping(5);
        desk.rollback(0);
        Desks.planFor(desk, 9);
        check.due("apply(-1)", desk.apply(-1), 6);
        check.kept(desk, 0, 2, 3, 4, 5, 6);
        check.generation(desk, 0, "00000");
        check.generation(desk, 2, "20000");
        check.generation(desk, 6, "90000");
        desk.rollback(0);
        check.due("apply(-1)", desk.apply(-1), 7);
        check.kept(desk, 0, 3, 4, 5, 6, 7);
        Desks.planFor(desk, 8);
        check.due("apply(-1) when 0 is not current any more", desk.apply(-1), 8);
        check.kept(desk, 3, 4, 5, 6, 7, 8);
    }

    private static void sixOfManyNumbers(Check check) {
        PackageDesk desk = Desks.keeping(9);
        check.kept(desk, 4, 5, 6, 7, 8, 9);
        desk.rollback(4);
        desk.collect(2);
        check.kept(desk, 4, 8, 9);
        for (int number = 10; number <= 12; number++) {
            desk.rollback(4);
            Desks.planFor(desk, number - 9);
            check.due("apply(-1)", desk.apply(-1), number);
        }
        check.kept(desk, 4, 8, 9, 10, 11, 12);
        desk.rollback(4);
        Desks.planFor(desk, 5);
        check.due("apply(-1)", desk.apply(-1), 13);
        check.kept(desk, 4, 9, 10, 11, 12, 13);
        check.generation(desk, 4, "40000");
        check.generation(desk, 9, "90000");
        check.generation(desk, 12, "30000");
        check.generation(desk, 13, "50000");
    }

    private static void currentNumber(Check check) {
        PackageDesk desk = new PackageDesk();
        check.due("at first", desk.current(), 0);
        for (int number = 1; number <= 8; number++) {
            Desks.planFor(desk, number);
            check.due("after a plan", desk.current(), number - 1);
            desk.apply(0);
            check.due("after a crash", desk.current(), number - 1);
            desk.apply(-1);
            check.due("after apply", desk.current(), number);
        }
        desk.rollback(2);
        check.due("after a rollback that is refused", desk.current(), 8);
        for (int number = 3; number <= 8; number++) {
            desk.rollback(number);
            check.due("after a rollback", desk.current(), number);
        }
        desk.rollback(4);
        desk.collect(1);
        check.due("after collect", desk.current(), 4);
        desk.rollback(8);
        desk.collect(1);
        check.due("after collect", desk.current(), 8);
    }

    private static void versions(Check check) {
        for (int pack = 0; pack < 5; pack++) {
            for (int version = 1; version <= 9; version++) {
                String digits = "00000".substring(0, pack) + version + "00000".substring(pack + 1);
                PackageDesk desk = Desks.holding(digits);
                check.generation(desk, 1, digits);
                check.generation(desk, 0, "00000");
            }
        }
        check.generation(Desks.holding("98765"), 1, "98765");
    }

    private static void versionOfAWrongPackage(Check check) {
        PackageDesk desk = Desks.keeping(5);
        for (int pack : Wrong.PACKS) {
            for (int number = 0; number <= 5; number++) {
                check.due("version(" + number + ", " + pack + ")", desk.version(number, pack), BAD);
            }
        }
        for (int pack : Wrong.PACKS) {
            for (int number : NO_NUMBERS) {
                check.due("version(" + number + ", " + pack + ")", new PackageDesk().version(number, pack), BAD);
            }
        }
    }

    private static void versionOfNoGeneration(Check check) {
        PackageDesk desk = Desks.keeping(5);
        for (int number : NO_NUMBERS) {
            for (int pack = 0; pack < 5; pack++) {
                check.due("version(" + number + ", " + pack + ")", desk.version(number, pack), NONE);
            }
        }
        check.due("the next number", desk.version(6, 0), NONE);
        check.due("the next number of a new desk", new PackageDesk().version(1, 0), NONE);
    }

    private static void versionOfOneThatWasKept(Check check) {
        PackageDesk desk = Desks.keeping(7);
        for (int pack = 0; pack < 5; pack++) {
            check.due("version(0, " + pack + ")", desk.version(0, pack), NONE);
            check.due("version(1, " + pack + ")", desk.version(1, pack), NONE);
            check.holds("2 is kept", desk.version(2, pack) >= 0);
        }
        desk.collect(1);
        for (int number = 0; number <= 6; number++) {
            check.due("version(" + number + ", 0)", desk.version(number, 0), NONE);
        }
        check.due("version(7, 0)", desk.version(7, 0), 7);
        PackageDesk few = Desks.keeping(2);
        few.collect(1);
        for (int pack = 0; pack < 5; pack++) {
            check.due("version(0, " + pack + ")", few.version(0, pack), NONE);
            check.due("version(1, " + pack + ")", few.version(1, pack), NONE);
        }
    }

    private static void rollsBack(Check check) {
        for (int from = 0; from <= 5; from++) {
            for (int to = 0; to <= 5; to++) {
                PackageDesk desk = Desks.keeping(5);
                desk.rollback(from);
                check.holds("it is done", desk.rollback(to) >= 0);
                check.due("current()", desk.current(), to);
                check.kept(desk, 0, 1, 2, 3, 4, 5);
                check.generation(desk, to, to + "0000");
                check.generation(desk, from, from + "0000");
                check.plan(desk, "50000");
            }
        }
    }

    private static void rollbackToNoGeneration(Check check) {
        PackageDesk desk = Desks.keeping(5);
        desk.rollback(3);
        for (int number : NO_NUMBERS) {
            check.due("rollback(" + number + ")", desk.rollback(number), NONE);
            check.due("current()", desk.current(), 3);
        }
        check.due("rollback(6)", desk.rollback(6), NONE);
        PackageDesk fresh = new PackageDesk();
        check.due("rollback(1) of a new desk", fresh.rollback(1), NONE);
        check.due("rollback(-1) of a new desk", fresh.rollback(-1), NONE);
        check.due("current()", fresh.current(), 0);
    }

    private static void rollbackToOneThatWasKept(Check check) {
        PackageDesk desk = Desks.keeping(6);
        check.due("rollback(0)", desk.rollback(0), NONE);
        check.due("rollback(1)", desk.rollback(1), 1);
        check.due("collect(2)", desk.collect(2), 3);
        for (int number = 2; number <= 4; number++) {
            check.due("rollback(" + number + ")", desk.rollback(number), NONE);
        }
        check.due("current()", desk.current(), 1);
        check.due("rollback(5)", desk.rollback(5), 1);
        PackageDesk few = Desks.keeping(2);
        few.collect(1);
        check.due("rollback(0)", few.rollback(0), NONE);
        check.due("rollback(1)", few.rollback(1), NONE);
        check.due("current()", few.current(), 2);
    }

    private static void rollbackCounts(Check check) {
        String[] plans = {"00000", "10000", "12000", "12300", "12340", "12345", "54321", "11111", "00005", "99999"};
        for (String from : plans) {
            for (String to : plans) {
                PackageDesk desk = new PackageDesk();
                Desks.plan(desk, to);
                int target = desk.apply(-1);
                Desks.withdraw(desk, to);
                Desks.plan(desk, from);
                int start = desk.apply(-1);
                int due = 0;
                for (int pack = 0; pack < 5; pack++) {
                    due += from.charAt(pack) == to.charAt(pack) ? 0 : 1;
                }
                check.due("rollback from " + from + " to " + to, desk.rollback(target), due);
                check.due("and forth", desk.rollback(start), due);
            }
        }
    }

    private static void rollbackToItself(Check check) {
        PackageDesk fresh = new PackageDesk();
        check.due("rollback(0)", fresh.rollback(0), 0);
        PackageDesk desk = Desks.holding("12345");
        check.due("rollback(1)", desk.rollback(1), 0);
        check.due("rollback(0)", desk.rollback(0), 5);
        check.due("rollback(0)", desk.rollback(0), 0);
        check.due("rollback(1)", desk.rollback(1), 5);
        check.kept(desk, 0, 1);
    }

    /** As many kept as there may be, each of them the current one, and every many. */
    private static void everyCollect(Check check) {
        for (int last = 0; last <= 5; last++) {
            for (int current = 0; current <= last; current++) {
                for (int many = 1; many <= 6; many++) {
                    PackageDesk desk = Desks.keeping(last);
                    desk.rollback(current);
                    desk.collect(many);
                    for (int number = 0; number <= last; number++) {
                        boolean due = number > last - many || number == current;
                        check.due("version(" + number + ", 0) after collect(" + many + ") at " + current,
                            desk.version(number, 0), due ? number : NONE);
                    }
                    check.due("current()", desk.current(), current);
                }
            }
        }
    }

    private static void collectAmongGaps(Check check) {
        PackageDesk desk = Desks.keeping(9);
        desk.rollback(5);
        check.due("collect(2)", desk.collect(2), 3);
        check.kept(desk, 5, 8, 9);
        check.due("collect(3), all three", desk.collect(3), 0);
        check.due("collect(2), with the current one besides", desk.collect(2), 0);
        desk.rollback(8);
        check.due("collect(3), none of them current but 8", desk.collect(3), 0);
        check.kept(desk, 5, 8, 9);
        check.due("collect(2), the current one among them", desk.collect(2), 1);
        check.kept(desk, 8, 9);
        check.due("collect(1)", desk.collect(1), 0);
        desk.rollback(9);
        check.due("collect(1)", desk.collect(1), 1);
        check.kept(desk, 9);
    }

    private static void wrongMany(Check check) {
        for (int last = 0; last <= 5; last++) {
            for (int many : new int[] {0, 7, 8, -1, -6, 256, 257, 65537, Integer.MIN_VALUE, Integer.MAX_VALUE}) {
                PackageDesk desk = Desks.keeping(last);
                check.due("collect(" + many + ")", desk.collect(many), BAD);
                for (int number = 0; number <= last; number++) {
                    check.due("version(" + number + ", 0)", desk.version(number, 0), number);
                }
            }
            check.due("collect(1)", Desks.keeping(last).collect(1), last);
            check.due("collect(6)", Desks.keeping(last).collect(6), 0);
        }
    }

    private static void collectCounts(Check check) {
        for (int last = 0; last <= 5; last++) {
            for (int current = 0; current <= last; current++) {
                for (int many = 1; many <= 6; many++) {
                    PackageDesk desk = Desks.keeping(last);
                    desk.rollback(current);
                    int beyond = Math.max(0, last + 1 - many);
                    int due = current < beyond ? beyond - 1 : beyond;
                    check.due("collect(" + many + ") of 0 .. " + last + " at " + current, desk.collect(many), due);
                    check.due("again", desk.collect(many), 0);
                }
            }
        }
    }
}
