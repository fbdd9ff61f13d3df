/** "Values", and promise 31. */
final class ValueTest {
    private static final int[] BEYOND = {-1, Integer.MIN_VALUE, Integer.MAX_VALUE};

    private ValueTest() {
    }

    static void run(Check check) {
        raidersInRange(check);
        defendersInRange(check);
        emptyInRange(check);
        otherEmptyInRange(check);
        raidsInRange(check);
        chancesInRange(check);
        chancesTogether(check);
        noRaidLeft(check);
        threeProducts(check);
        lessTheValueOfTheOther(check);
        touches(check);
        touchesOfAllSeven(check);
        caughtRaiders(check);
        caughtBySeven(check);
        doOrDie(check);
        allOuts(check);
        endOfTheCount(check);
        againstForward(check);
        knownValues(check);
    }

    private static void wrong(Check check, String what, int... w) {
        check.illegalArgument("value of " + what, Raidline::new, x -> x.value(w[0], w[1], w[2], w[3], w[4], w[5], w[6]));
    }

    private static void raidersInRange(Check check) {
        check.by("31", "Returns the value of a state.");
        check.by("31", "`raiders`: raiders on the mat, 1 to 7");
        check.by("31", "Throws `IllegalArgumentException` if a number is out of range");
        check.is("1 raider", new Raidline().value(1, 7, 0, 0, 1, 0, 100), -3.0);
        check.is("7 raiders", new Raidline().value(7, 7, 0, 0, 1, 0, 100), -1.0);
        wrong(check, "0 raiders", 0, 7, 0, 0, 1, 1, 1);
        wrong(check, "8 raiders", 8, 7, 0, 0, 1, 1, 1);
        for (int number : BEYOND) {
            wrong(check, number + " raiders", number, 7, 0, 0, 1, 1, 1);
        }
    }

    private static void defendersInRange(Check check) {
        check.by("31", "`defenders`: defenders on it, 1 to 7");
        check.is("1 defender", new Raidline().value(7, 1, 0, 0, 1, 100, 0), 3.0);
        check.is("7 defenders", new Raidline().value(7, 7, 0, 0, 1, 100, 0), 1.0);
        wrong(check, "0 defenders", 7, 0, 0, 0, 1, 1, 1);
        wrong(check, "8 defenders", 7, 8, 0, 0, 1, 1, 1);
        for (int number : BEYOND) {
            wrong(check, number + " defenders", 7, number, 0, 0, 1, 1, 1);
        }
    }

    private static void emptyInRange(Check check) {
        check.by("31", "`empty`: empty raids of the side in turn, 0 to 2");
        check.is("0 empty raids", new Raidline().value(7, 7, 0, 0, 1, 0, 0), 0.0);
        check.is("1 empty raid", new Raidline().value(7, 7, 1, 0, 1, 0, 0), 0.0);
        check.is("2 empty raids", new Raidline().value(7, 7, 2, 0, 1, 0, 0), -1.0);
        wrong(check, "3 empty raids", 7, 7, 3, 0, 1, 1, 1);
        for (int number : BEYOND) {
            wrong(check, number + " empty raids", 7, 7, number, 0, 1, 1, 1);
        }
    }

    private static void otherEmptyInRange(Check check) {
        check.by("31", "`otherEmpty`: those of the other side, 0 to 2");
        check.is("0 of the other side", new Raidline().value(7, 7, 0, 0, 2, 0, 0), 0.0);
        check.is("1 of the other side", new Raidline().value(7, 7, 0, 1, 2, 0, 0), 0.0);
        check.is("2 of the other side", new Raidline().value(7, 7, 0, 2, 2, 0, 0), 1.0);
        wrong(check, "3 of the other side", 7, 7, 0, 3, 1, 1, 1);
        for (int number : BEYOND) {
            wrong(check, number + " of the other side", 7, 7, 0, number, 1, 1, 1);
        }
    }

    private static void raidsInRange(Check check) {
        check.by("31", "`raids`: raids left, 0 to 12");
        check.is("0 raids", new Raidline().value(7, 7, 2, 0, 0, 0, 0), 0.0);
        check.is("12 raids", new Raidline().value(4, 4, 0, 0, 12, 45, 30), 0.09549841701841404);
        wrong(check, "13 raids", 7, 7, 0, 0, 13, 1, 1);
        for (int number : BEYOND) {
            wrong(check, number + " raids", 7, 7, 0, 0, number, 1, 1);
        }
    }

    private static void chancesInRange(Check check) {
        check.is("a touch by 0", new Raidline().value(7, 7, 2, 0, 1, 0, 0), -1.0);
        check.is("a touch by 100", new Raidline().value(7, 7, 2, 0, 1, 100, 0), 1.0);
        check.is("caught by 100", new Raidline().value(7, 3, 2, 0, 1, 0, 100), -2.0);
        wrong(check, "a touch by 101", 7, 7, 0, 0, 1, 101, 0);
        wrong(check, "caught by 101", 7, 7, 0, 0, 1, 0, 101);
        wrong(check, "a touch by 101, caught by -1", 7, 7, 0, 0, 1, 101, -1);
        wrong(check, "a touch by -1, caught by 101", 7, 7, 0, 0, 1, -1, 101);
        for (int number : BEYOND) {
            wrong(check, "a touch by " + number, 7, 7, 0, 0, 1, number, 0);
            wrong(check, "caught by " + number, 7, 7, 0, 0, 1, 0, number);
        }
    }

    private static void chancesTogether(Check check) {
        check.by("31", "`caught`: the chance to be caught, both together 100 at most");
        check.is("50 and 50", new Raidline().value(7, 7, 0, 0, 1, 50, 50), 0.0);
        check.is("60 and 40", new Raidline().value(7, 7, 2, 0, 1, 60, 40), 60 / 100.0 - 40 / 100.0);
        wrong(check, "50 and 51", 7, 7, 0, 0, 1, 50, 51);
        wrong(check, "51 and 50", 7, 7, 0, 0, 1, 51, 50);
        wrong(check, "1 and 100", 7, 7, 0, 0, 1, 1, 100);
        wrong(check, "100 and 1", 7, 7, 0, 0, 1, 100, 1);
        wrong(check, "60 and 41, without a raid left", 7, 7, 0, 0, 0, 60, 41);
        wrong(check, "a sum beyond int", 7, 7, 0, 0, 1, Integer.MAX_VALUE, Integer.MAX_VALUE);
        wrong(check, "a sum that wraps around to 0", 7, 7, 0, 0, 1, Integer.MIN_VALUE, Integer.MIN_VALUE);
    }

    private static void noRaidLeft(Check check) {
        check.by("Values", "0.0 without a raid left.");
        Raidline x = new Raidline();
        check.is("all that can be", x.value(7, 7, 0, 0, 0, 100, 0), 0.0);
        check.is("do or die", x.value(1, 1, 2, 2, 0, 0, 0), 0.0);
        check.is("caught", x.value(1, 3, 0, 0, 0, 0, 100), 0.0);
        x.value(7, 1, 0, 0, 12, 100, 0);
        check.is("behind another value", x.value(7, 1, 0, 0, 0, 100, 0), 0.0);
    }

    private static void threeProducts(Check check) {
        check.by("Values", "It is a sum of three products, in this order: the chance of one touch, of a caught raider, and the rest, of an empty raid, each converted to double and divided by 100.0,");
        Raidline x = new Raidline();
        check.is("45, 30 and 25", x.value(7, 7, 2, 0, 1, 45, 30), 45 / 100.0 * 1.0 + 30 / 100.0 * -1.0 + 25 / 100.0 * -1.0);
        check.is("7, 61 and 32", x.value(1, 1, 2, 0, 1, 7, 61), 7 / 100.0 * 3.0 + 61 / 100.0 * -4.0 + 32 / 100.0 * -3.0);
        check.is("33, 33 and 34", x.value(7, 3, 0, 0, 1, 33, 33), 33 / 100.0 * 1.0 + 33 / 100.0 * -2.0 + 34 / 100.0 * 0.0);
        check.is("1, 98 and 1", x.value(7, 1, 2, 0, 1, 1, 98), 1 / 100.0 * 3.0 + 98 / 100.0 * -2.0 + 1 / 100.0 * -1.0);
    }

    private static void lessTheValueOfTheOther(Check check) {
        check.by("Values", "times the difference of points that this brings, converted to double, less the value of what comes then for the other squad.");
        check.by("Values", "The value of a state, with so many raiders and defenders on the mat, so many empty raids of both, and so many raids left, in turn, is the expected difference of points of the squad in turn,");
        Raidline x = new Raidline();
        double behindTouch = x.value(6, 5, 2, 0, 1, 37, 21);
        double behindOut = x.value(7, 3, 2, 0, 1, 37, 21);
        double behindEmpty = x.value(7, 4, 2, 1, 1, 37, 21);
        check.is("two raids", x.value(4, 7, 0, 2, 2, 37, 21),
            37 / 100.0 * (1.0 - behindTouch) + 21 / 100.0 * (-1.0 - behindOut) + 42 / 100.0 * (0.0 - behindEmpty));
    }

    private static void touches(Check check) {
        check.by("Values", "A touch brings 1, and one raider comes back,");
        Raidline x = new Raidline();
        check.is("a touch", x.value(4, 4, 0, 0, 1, 100, 0), 1.0);
        check.is("2 raiders are 3: a super tackle", x.value(2, 7, 0, 0, 2, 50, 50), 0.5 * (1.0 + 0.5) + 0.5 * (-1.0 - 0.5));
        check.is("3 raiders are 4: none", x.value(3, 7, 0, 0, 2, 50, 50), 0.5 * (1.0 - 0.0) + 0.5 * (-1.0 + 0.5));
    }

    private static void touchesOfAllSeven(Check check) {
        check.by("Values", "of 7 in all;");
        Raidline x = new Raidline();
        check.is("7 stay 7", x.value(7, 4, 0, 0, 3, 60, 30), forward(7, 4, 0, 0, 3, 60, 30));
        check.is("6 are 7", x.value(6, 4, 0, 0, 3, 60, 30), forward(6, 4, 0, 0, 3, 60, 30));
    }

    private static void caughtRaiders(Check check) {
        check.by("Values", "a caught raider less 1, less 2 with 3 defenders or fewer, and a defender comes back;");
        Raidline x = new Raidline();
        for (int defenders = 1; defenders <= 7; defenders++) {
            check.is("caught by " + defenders, x.value(7, defenders, 0, 0, 1, 0, 100), defenders <= 3 ? -2.0 : -1.0);
        }
        check.is("4 raiders are 3", x.value(4, 7, 0, 0, 2, 0, 100), -1.0 + 2.0);
        check.is("5 raiders are 4", x.value(5, 7, 0, 0, 2, 0, 100), -1.0 + 1.0);
        check.is("one defender of 2 comes back", x.value(7, 2, 0, 0, 3, 0, 100), -2.0 + 1.0 - 2.0);
        check.is("one defender of 3 comes back", x.value(7, 3, 0, 0, 3, 0, 100), -2.0 + 1.0 - 2.0);
        check.is("one defender of 4 comes back", x.value(7, 4, 0, 0, 3, 0, 100), -1.0 + 1.0 - 1.0);
    }

    private static void caughtBySeven(Check check) {
        Raidline x = new Raidline();
        check.is("7 defenders stay 7", x.value(5, 7, 0, 0, 4, 20, 70), forward(5, 7, 0, 0, 4, 20, 70));
        check.is("6 defenders are 7", x.value(5, 6, 0, 0, 4, 20, 70), forward(5, 6, 0, 0, 4, 20, 70));
    }

    private static void doOrDie(Check check) {
        check.by("Values", "a do-or-die raid that is empty less 1, and likewise;");
        Raidline x = new Raidline();
        check.is("7 defenders", x.value(7, 7, 2, 0, 1, 0, 0), -1.0);
        check.is("3 defenders, no super tackle", x.value(7, 3, 2, 0, 1, 0, 0), -1.0);
        check.is("then the other squad's", x.value(4, 3, 2, 2, 2, 0, 0), -1.0 + 1.0);
        check.is("with chances", x.value(4, 3, 2, 1, 4, 11, 13), forward(4, 3, 2, 1, 4, 11, 13));
    }

    private static void allOuts(Check check) {
        check.by("Values", "nobody left brings 2 to the other squad, and 7 are there again.");
        Raidline x = new Raidline();
        check.is("the last defender is touched", x.value(7, 1, 0, 0, 1, 100, 0), 1.0 + 2.0);
        check.is("one of two is touched", x.value(7, 2, 0, 0, 1, 100, 0), 1.0);
        check.is("7 are there again", x.value(7, 1, 0, 0, 3, 100, 0), 3.0 - 1.0 + 1.0);
        check.is("the last raider is caught", x.value(1, 4, 0, 0, 1, 0, 100), -1.0 - 2.0);
        check.is("the last raider is caught by 3", x.value(1, 3, 0, 0, 1, 0, 100), -2.0 - 2.0);
        check.is("one of two raiders is caught", x.value(2, 4, 0, 0, 1, 0, 100), -1.0);
        check.is("7 raiders are there again", x.value(1, 7, 0, 0, 2, 0, 100), -3.0 + 1.0);
        check.is("do or die of the last one", x.value(1, 7, 2, 0, 1, 0, 0), -1.0 - 2.0);
        check.is("do or die of one of two", x.value(2, 7, 2, 0, 1, 0, 0), -1.0);
    }

    private static void endOfTheCount(Check check) {
        check.by("Values", "Raids that are not empty, and do-or-die ones, end the count.");
        Raidline x = new Raidline();
        check.is("empty raids count on", x.value(7, 7, 1, 0, 3, 0, 0), -1.0);
        check.is("those of the other squad, too", x.value(7, 7, 0, 1, 4, 0, 0), 1.0);
        check.is("do or die ends it", x.value(7, 7, 2, 0, 5, 0, 0), -1.0);
        check.is("then the other squad's is the next", x.value(7, 7, 2, 0, 6, 0, 0), -1.0 + 1.0);
        check.is("a touch ends it", x.value(7, 7, 2, 0, 3, 50, 0), forward(7, 7, 2, 0, 3, 50, 0));
        check.is("a caught raider ends it", x.value(7, 7, 1, 0, 3, 0, 50), forward(7, 7, 1, 0, 3, 0, 50));
    }

    /** The same sum, looked for forward. */
    private static double forward(int r, int d, int e, int o, int raids, int touch, int caught) {
        if (raids == 0) {
            return 0.0;
        }
        double[] products = new double[3];
        int[] chances = {touch, caught, 100 - touch - caught};
        for (int kind = 0; kind < 3; kind++) {
            int raiders = r;
            int defenders = d;
            int empty = 0;
            int difference;
            if (kind == 0) {
                difference = 1;
                defenders--;
                raiders = Math.min(7, raiders + 1);
            } else if (kind == 1 || e == 2) {
                difference = kind == 1 && d <= 3 ? -2 : -1;
                raiders--;
                defenders = Math.min(7, defenders + 1);
            } else {
                difference = 0;
                empty = e + 1;
            }
            if (raiders == 0) {
                raiders = 7;
                difference -= 2;
            }
            if (defenders == 0) {
                defenders = 7;
                difference += 2;
            }
            double behind = forward(defenders, raiders, o, empty, raids - 1, touch, caught);
            products[kind] = chances[kind] / 100.0 * (difference - behind);
        }
        return products[0] + products[1] + products[2];
    }

    private static void againstForward(Check check) {
        int[][] chances = {{45, 30}, {33, 33}, {7, 61}, {100, 0}, {0, 0}, {29, 71}};
        for (int state = 0; state < 441; state++) {
            Raidline x = new Raidline();
            int r = state / 63 + 1;
            int d = state / 9 % 7 + 1;
            int e = state / 3 % 3;
            int o = state % 3;
            for (int raids = 1; raids <= 4; raids++) {
                int[] c = chances[(state + raids) % chances.length];
                check.is("value of " + r + " " + d + " " + e + " " + o + " with " + raids + " raids",
                    x.value(r, d, e, o, raids, c[0], c[1]), forward(r, d, e, o, raids, c[0], c[1]));
            }
        }
    }

    private static void knownValues(Check check) {
        check.by("31", "Returns the value, with 7 in all on each side, revived.");
        Raidline x = new Raidline();
        check.is("three raids", x.value(4, 4, 1, 2, 3, 25, 25), 0.171875);
        check.is("ten raids", x.value(2, 3, 1, 2, 10, 37, 21), forward(2, 3, 1, 2, 10, 37, 21));
        check.is("twelve raids", x.value(7, 7, 0, 0, 12, 41, 29), forward(7, 7, 0, 0, 12, 41, 29));
        check.is("twelve raids from few", x.value(1, 1, 2, 1, 12, 13, 47), forward(1, 1, 2, 1, 12, 13, 47));
        x.edition(3, 1, false, 2);
        check.is("an edition changes no value", x.value(4, 4, 1, 2, 3, 25, 25), 0.171875);
        check.is("nor in a match", Games.match(3, 3, 1, false, 2).value(4, 4, 1, 2, 3, 25, 25), 0.171875);
    }
}
