/** Promises 21 to 23 and 26 to 29: WORDS that hold, NAMES, the PURSE, PARTS, SHRUNK, CLOUDY. */
final class SumsTest {
    private static final Check CHECK = new Check();

    public static void main(String[] args) {
        holds();
        greatest();
        names();
        purse();
        parts();
        shrunk();
        cloudy();
        CHECK.finish();
    }

    private static void holds() {
        MoonDebts x = new MoonDebts();
        CHECK.same("holds(15, 5, 12)", x.holds(15, 5, 12), 1);
        CHECK.same("holds(16, 5, 12)", x.holds(16, 5, 12), 0);
        CHECK.same("holds(9999, 999, 15)", x.holds(9999, 999, 15), 1);
        CHECK.same("holds(1, 0, 15)", x.holds(1, 0, 15), 0);
        CHECK.same("holds(1, 999, 0)", x.holds(1, 999, 0), 0);
        int[][] bad = {{0, 5, 5}, {10000, 5, 5}, {-1, 5, 5}, {5, -1, 5}, {5, 1000, 5}, {5, 5, -1}, {5, 5, 16}};
        for (int[] b : bad) {
            CHECK.same("holds(" + b[0] + ", " + b[1] + ", " + b[2] + ")", x.holds(b[0], b[1], b[2]), -1);
        }
    }

    private static void greatest() {
        MoonDebts x = new MoonDebts();
        CHECK.same("greatest(5, 12)", x.greatest(5, 12), 15);
        CHECK.same("greatest(999, 15)", x.greatest(999, 15), 14985);
        CHECK.same("greatest(7, 5)", x.greatest(7, 5), 3);
        CHECK.same("greatest(0, 0)", x.greatest(0, 0), 0);
        CHECK.same("greatest(-1, 5)", x.greatest(-1, 5), -1);
        CHECK.same("greatest(1000, 5)", x.greatest(1000, 5), -1);
        CHECK.same("greatest(5, -1)", x.greatest(5, -1), -1);
        CHECK.same("greatest(5, 16)", x.greatest(5, 16), -1);
    }

    private static void names() {
        MoonDebts x = new MoonDebts();
        CHECK.same("names(60, 12)", x.names(60, 12), 1);
        CHECK.same("names(60, 11)", x.names(60, 11), 2);
        CHECK.same("names(60, 8)", x.names(60, 8), 2);
        // 14 to 10 is above a quarter of 16 to 10, 14 to 11 below.
        CHECK.same("names(60, 2)", x.names(60, 2), 11);
        CHECK.same("names(11, 2)", x.names(11, 2), 11);
        CHECK.same("names(10, 2)", x.names(10, 2), -1);
        CHECK.same("names(60, 1)", x.names(60, 1), -1);
        CHECK.same("names(60, 0)", x.names(60, 0), -1);
        CHECK.same("names(1, 16)", x.names(1, 16), 1);
        int[][] bad = {{0, 12}, {61, 12}, {-1, 12}, {5, -1}, {5, 17}};
        for (int[] b : bad) {
            CHECK.same("names(" + b[0] + ", " + b[1] + ")", x.names(b[0], b[1]), -1);
        }
    }

    private static void purse() {
        // On night 9: of b 500 of 1000 (night 10), of c 250 and 8 of 16 of 750 (nights 10, 20), of d all (one night).
        MoonDebts x = Check.landOf("moon 10 0;strike 8 1;sort a 2 50 99 5 0 0;sort b 3 0 21 4 10 0;sort c 1 5 40 12 20 8;"
            + "sort d 7 9 10 1 0 0;sort e 9 7 3 5 0 0;");
        CHECK.same("purse(0, 0)", x.purse(0, 0), 0);
        CHECK.same("purse(1, 0)", x.purse(1, 0), 63);
        CHECK.same("purse(1, 1)", x.purse(1, 1), 31);
        CHECK.same("purse(5, 0)", x.purse(5, 0), 63);
        CHECK.same("purse(6, 0)", x.purse(6, 0), 98);
        CHECK.same("purse(6, 1)", x.purse(6, 1), 31 + 21);
        CHECK.same("purse(50, 0)", x.purse(50, 0), 105);
        CHECK.same("purse(50, 1)", x.purse(50, 1), 31 + 21 + 7);
        CHECK.same("purse(51, 0)", x.purse(51, 0), 203);
        CHECK.same("purse(100, 0)", x.purse(100, 0), 203);
        CHECK.same("purse(101, 0)", x.purse(101, 0), -1);
        CHECK.same("purse(-1, 0)", x.purse(-1, 0), -1);
        CHECK.same("purse(50, 2)", x.purse(50, 2), -1);
        CHECK.same("purse(50, -1)", x.purse(50, -1), -1);
    }

    private static void parts() {
        MoonDebts x = new MoonDebts();
        CHECK.same("part(100, 7, 0)", x.part(100, 7, 0), 100);
        CHECK.same("part(100, 7, 6)", x.part(100, 7, 6), 14);
        CHECK.same("part(0, 1, 0)", x.part(0, 1, 0), 0);
        CHECK.same("part(99999, 20, 1)", x.part(99999, 20, 1), 94999);
        int[][] bad = {{-1, 7, 0}, {100000, 7, 0}, {5, 0, 0}, {5, 21, 0}, {5, 7, -1}, {5, 7, 7}, {5, -1, -2}};
        for (int[] b : bad) {
            CHECK.same("part(" + b[0] + ", " + b[1] + ", " + b[2] + ")", x.part(b[0], b[1], b[2]), -1);
        }
    }

    private static void shrunk() {
        MoonDebts x = new MoonDebts();
        // Half of 100, then half of 40 of 50, then half of 18 of 30.
        CHECK.same("shrunk(100, 500, 8, 1)", x.shrunk(100, 500, 8, 1), 50);
        CHECK.same("shrunk(100, 500, 8, 2)", x.shrunk(100, 500, 8, 2), 30);
        CHECK.same("shrunk(100, 500, 8, 3)", x.shrunk(100, 500, 8, 3), 21);
        CHECK.same("shrunk(100, 100, 0, 1)", x.shrunk(100, 100, 0, 1), 0);
        CHECK.same("shrunk(0, 2000, 16, 19)", x.shrunk(0, 2000, 16, 19), 0);
        CHECK.same("shrunk(100, 502, 0, 2)", x.shrunk(100, 502, 0, 2), 100);
        CHECK.same("shrunk(100, 502, 0, 3)", x.shrunk(100, 502, 0, 3), 0);
        CHECK.same("shrunk(100, 502, 0, 40)", x.shrunk(100, 502, 0, 40), 0);
        CHECK.same("shrunk(99999, 2000, 1, 1)", x.shrunk(99999, 2000, 1, 1), 93750);
        int[][] bad = {{-1, 500, 8, 1}, {100000, 500, 8, 1}, {5, -500, 8, 1}, {5, 0, 8, 1}, {5, 2100, 8, 1}, {5, 505, 8, 1},
            {5, 499, 8, 1}, {5, 500, -1, 1}, {5, 500, 17, 1}, {5, 500, 8, 0}, {5, 500, 8, 41},
            {5, Integer.MAX_VALUE, 8, 1}, {5, Integer.MIN_VALUE, 8, 1}};
        for (int[] b : bad) {
            CHECK.same("shrunk(" + b[0] + ", " + b[1] + ", " + b[2] + ", " + b[3] + ")", x.shrunk(b[0], b[1], b[2], b[3]), -1);
        }
    }

    private static void cloudy() {
        MoonDebts x = Check.landOf("moon 5 4;sort a 1 1 1 1 1 1;");
        CHECK.same("cloudy(1, 0)", x.cloudy(1, 0), 1000);
        CHECK.same("cloudy(1, 1)", x.cloudy(1, 1), 250);
        // 1 - 0.75 * 0.75, and 0.25 * 0.25
        CHECK.same("cloudy(2, 1)", x.cloudy(2, 1), 437);
        CHECK.same("cloudy(2, 2)", x.cloudy(2, 2), 62);
        CHECK.same("cloudy(12, 12)", x.cloudy(12, 12), 0);
        CHECK.same("cloudy(12, 1)", x.cloudy(12, 1), 968);
        MoonDebts most = Check.landOf("moon 5 15;sort a 1 1 1 1 1 1;");
        CHECK.same("cloudy(12, 12) of 15", most.cloudy(12, 12), 460);
        CHECK.same("cloudy(12, 0) of 15", most.cloudy(12, 0), 1000);
        MoonDebts clear = Check.landOf("moon 5 0;sort a 1 1 1 1 1 1;");
        CHECK.same("cloudy(12, 0) of 0", clear.cloudy(12, 0), 1000);
        CHECK.same("cloudy(12, 1) of 0", clear.cloudy(12, 1), 0);
        int[][] bad = {{0, 0}, {13, 1}, {-1, -1}, {5, -1}, {5, 6}};
        for (int[] b : bad) {
            CHECK.same("cloudy(" + b[0] + ", " + b[1] + ")", x.cloudy(b[0], b[1]), -1);
        }
    }
}
