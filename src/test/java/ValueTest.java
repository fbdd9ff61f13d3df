/** Promise 31: values of states. */
final class ValueTest {
    private ValueTest() {
    }

    static void run(Check check) {
        ranges(check);
        oneRaid(check);
        twoRaids(check);
        forward(check);
        knownValues(check);
    }

    private static void ranges(Check check) {
        Raidline x = new Raidline();
        int[][] wrong = {
            {0, 7, 0, 0, 1, 1, 1}, {8, 7, 0, 0, 1, 1, 1}, {7, 0, 0, 0, 1, 1, 1}, {7, 8, 0, 0, 1, 1, 1},
            {7, 7, -1, 0, 1, 1, 1}, {7, 7, 3, 0, 1, 1, 1}, {7, 7, 0, -1, 1, 1, 1}, {7, 7, 0, 3, 1, 1, 1},
            {7, 7, 0, 0, -1, 1, 1}, {7, 7, 0, 0, 13, 1, 1}, {7, 7, 0, 0, 1, -1, 1}, {7, 7, 0, 0, 1, 1, -1},
            {7, 7, 0, 0, 1, 101, 0}, {7, 7, 0, 0, 1, 0, 101}, {7, 7, 0, 0, 1, 50, 51},
            {7, 7, 0, 0, 1, Integer.MAX_VALUE, Integer.MAX_VALUE}, {7, 7, 0, 0, 1, 1, Integer.MAX_VALUE},
            {7, 7, 0, 0, 0, 60, 41}, {Integer.MIN_VALUE, 7, 0, 0, 1, 1, 1}, {7, 7, 0, 0, 1, 101, -1},
        };
        for (int[] w : wrong) {
            check.isIllegalArgument("value of " + java.util.Arrays.toString(w),
                () -> x.value(w[0], w[1], w[2], w[3], w[4], w[5], w[6]));
        }
        check.is("the ends", x.value(1, 1, 2, 2, 0, 100, 0), 0.0);
        check.is("the ends", x.value(7, 7, 0, 0, 0, 0, 100), 0.0);
    }

    private static void oneRaid(Check check) {
        Raidline x = new Raidline();
        check.is("no raid left", x.value(7, 7, 0, 0, 0, 50, 50), 0.0);
        check.is("a touch", x.value(7, 7, 0, 0, 1, 100, 0), 1.0);
        check.is("a touch of the last one", x.value(7, 1, 0, 0, 1, 100, 0), 3.0);
        check.is("caught", x.value(7, 7, 0, 0, 1, 0, 100), -1.0);
        check.is("caught by 4", x.value(7, 4, 0, 0, 1, 0, 100), -1.0);
        check.is("caught by 3", x.value(7, 3, 0, 0, 1, 0, 100), -2.0);
        check.is("the last one caught", x.value(1, 4, 0, 0, 1, 0, 100), -3.0);
        check.is("the last one caught by 3", x.value(1, 3, 0, 0, 1, 0, 100), -4.0);
        check.is("empty", x.value(7, 7, 1, 2, 1, 0, 0), 0.0);
        check.is("do or die", x.value(7, 3, 2, 0, 1, 0, 0), -1.0);
        check.is("do or die of the last one", x.value(1, 7, 2, 0, 1, 0, 0), -3.0);
        check.is("chances", x.value(7, 7, 0, 0, 1, 45, 30), 45 / 100.0 * 1.0 + 30 / 100.0 * -1.0 + 25 / 100.0 * 0.0);
    }

    private static void twoRaids(Check check) {
        Raidline x = new Raidline();
        check.is("the other side's do or die", x.value(7, 7, 0, 2, 2, 0, 0), 1.0);
        check.is("the other side's count goes on", x.value(7, 7, 0, 1, 2, 0, 0), 0.0);
        check.is("its own count goes on", x.value(7, 7, 1, 0, 3, 0, 0), -1.0);
        check.is("and ends by do or die", x.value(7, 7, 2, 0, 3, 0, 0), -1.0);
        check.is("a touch brings one back", x.value(1, 7, 0, 0, 2, 100, 0), 1.0 - 1.0);
        check.is("two raids of touches", x.value(7, 1, 0, 0, 2, 100, 0), 3.0 - 1.0);
        check.is("a caught one lets one come back", x.value(7, 3, 0, 0, 2, 0, 100), -2.0 + 1.0);
    }

    /** The same sum, looked for forward. */
    private static double forward(int r, int d, int e, int o, int raids, int touch, int caught) {
        if (raids == 0) {
            return 0.0;
        }
        double[] products = new double[3];
        int[] chances = {touch, caught, 100 - touch - caught};
        for (int kind = 0; kind < 3; kind++) {
            int raiders = r;
            int defenders = d;
            int empty = 0;
            int difference;
            if (kind == 0) {
                difference = 1;
                defenders--;
                raiders = Math.min(7, raiders + 1);
            } else if (kind == 1 || e == 2) {
                difference = kind == 1 && d <= 3 ? -2 : -1;
                raiders--;
                defenders = Math.min(7, defenders + 1);
            } else {
                difference = 0;
                empty = e + 1;
            }
            if (raiders == 0) {
                raiders = 7;
                difference -= 2;
            }
            if (defenders == 0) {
                defenders = 7;
                difference += 2;
            }
            double behind = forward(defenders, raiders, o, empty, raids - 1, touch, caught);
            products[kind] = chances[kind] / 100.0 * (difference - behind);
        }
        return products[0] + products[1] + products[2];
    }

    private static void forward(Check check) {
        Raidline x = new Raidline();
        int[][] chances = {{45, 30}, {33, 33}, {7, 61}, {100, 0}, {0, 0}, {29, 71}};
        int calls = 0;
        for (int raids = 1; raids <= 4; raids++) {
            for (int state = raids; state < 441 && calls < 500; state += 23) {
                int[] c = chances[(state + raids) % chances.length];
                int r = state / 63 + 1;
                int d = state / 9 % 7 + 1;
                int e = state / 3 % 3;
                int o = state % 3;
                calls++;
                check.is("value of state " + state + " with " + raids + " raids",
                    x.value(r, d, e, o, raids, c[0], c[1]), forward(r, d, e, o, raids, c[0], c[1]));
            }
        }
        check.is("the first state", x.value(1, 1, 0, 0, 7, 31, 12), forward(1, 1, 0, 0, 7, 31, 12));
        check.is("the last state", x.value(7, 7, 2, 2, 7, 31, 12), forward(7, 7, 2, 2, 7, 31, 12));
        check.is("ten raids", x.value(2, 3, 1, 2, 10, 37, 21), forward(2, 3, 1, 2, 10, 37, 21));
        check.is("twelve raids", x.value(7, 7, 0, 0, 12, 41, 29), forward(7, 7, 0, 0, 12, 41, 29));
        check.is("twelve raids from few", x.value(1, 1, 2, 1, 12, 13, 47), forward(1, 1, 2, 1, 12, 13, 47));
    }

    private static void knownValues(Check check) {
        Raidline x = new Raidline();
        check.is("three raids", x.value(4, 4, 1, 2, 3, 25, 25), 0.171875);
        check.is("twelve raids", x.value(4, 4, 0, 0, 12, 45, 30), 0.09549841701841404);
        check.is("an edition changes no value", x.edition(3, 1, false, 2), 7);
        check.is("the same", x.value(4, 4, 1, 2, 3, 25, 25), 0.171875);
    }
}
