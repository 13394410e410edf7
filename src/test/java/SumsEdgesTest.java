/** Parts 4 and 6 of Terms and promises 21 to 23 and 26 to 29 at their edges: a method for each sentence that names one. */
final class SumsEdgesTest {
    private static final int MIN = Integer.MIN_VALUE;
    private static final int MAX = Integer.MAX_VALUE;
    private static final Check CHECK = new Check();

    public static void main(String[] args) {
        holdsOrNot();
        holdsAsked();
        greatestHolds();
        greatestAsked();
        namesAtLeast12Of16();
        namesAtMostN();
        namesAtMost12();
        namesAsked();
        purseBelowTheLine();
        purseBeyondTheirCoin();
        purseOnTheLastNight();
        purseIsCut();
        purseAsked();
        parts();
        partAsked();
        shrunkByParts();
        struckAtTheYth();
        shrunkAsked();
        cloudy();
        cloudyAsked();
        CHECK.finish();
    }

    private static void holdsOrNot() {
        CHECK.about("together is d or more: g * r against d * (16 - r)");
        MoonDebts x = new MoonDebts();
        // d, g, r with just as much, and one less.
        int[][] due = {{1, 15, 1}, {1, 1, 8}, {999, 999, 8}, {15, 1, 15}, {9990, 666, 15}, {7, 49, 2}, {5994, 999, 14}};
        for (int[] row : due) {
            CHECK.same("holds(" + row[0] + ", " + row[1] + ", " + row[2] + ")", x.holds(row[0], row[1], row[2]), 1);
            CHECK.same("one debt more", x.holds(row[0] + 1, row[1], row[2]), row[0] == 5994 ? 1 : 0);
            CHECK.same("one gain less", x.holds(row[0], row[1] - 1, row[2]), row[0] == 5994 ? 1 : 0);
        }
        CHECK.same("holds(6993, 999, 14)", x.holds(6993, 999, 14), 1);
        CHECK.same("holds(6994, 999, 14)", x.holds(6994, 999, 14), 0);
        CHECK.same("holds(9999, 999, 15)", x.holds(9999, 999, 15), 1);
        CHECK.same("holds(9999, 666, 15)", x.holds(9999, 666, 15), 0);
        CHECK.same("holds(9999, 667, 15)", x.holds(9999, 667, 15), 1);
        CHECK.same("holds(1, 999, 0)", x.holds(1, 999, 0), 0);
        CHECK.same("holds(1, 0, 0)", x.holds(1, 0, 0), 0);
        CHECK.same("holds(1, 0, 15)", x.holds(1, 0, 15), 0);
    }

    private static void holdsAsked() {
        CHECK.about("a debt of d (1 .. 9999), .. a gain of g (0 .. 999) .. worth r of 16 (0 .. 15) / NONE if it can't be.");
        MoonDebts x = new MoonDebts();
        for (int d : new int[] {MIN, -1, 0, 1, 2, 9998, 9999, 10000, MAX}) {
            for (int g : new int[] {MIN, -1, 0, 1, 998, 999, 1000, MAX}) {
                for (int r : new int[] {MIN, -1, 0, 1, 15, 16, MAX}) {
                    boolean can = d >= 1 && d <= 9999 && g >= 0 && g <= 999 && r >= 0 && r <= 15;
                    CHECK.same("holds(" + d + ", " + g + ", " + r + ")", x.holds(d, g, r), !can ? -1 : (long) g * r >= (long) d * (16 - r) ? 1 : 0);
                }
            }
        }
    }

    private static void greatestHolds() {
        CHECK.about("The GREATEST debt is the greatest d (0 .. 99999) that holds.");
        MoonDebts x = new MoonDebts();
        for (int g = 0; g <= 999; g += 37) {
            for (int r = 0; r <= 15; r += 5) {
                int d = x.greatest(g, r);
                CHECK.yes("greatest(" + g + ", " + r + ") holds: " + d, d >= 0 && g * r >= d * (16 - r));
                CHECK.yes("one more does not", g * r < (d + 1) * (16 - r));
            }
        }
        CHECK.same("greatest(999, 15)", x.greatest(999, 15), 14985);
        CHECK.same("greatest(999, 0)", x.greatest(999, 0), 0);
        CHECK.same("greatest(0, 15)", x.greatest(0, 15), 0);
        CHECK.same("greatest(14, 1)", x.greatest(14, 1), 0);
        CHECK.same("greatest(15, 1)", x.greatest(15, 1), 1);
        CHECK.same("greatest(29, 1)", x.greatest(29, 1), 1);
        CHECK.same("greatest(30, 1)", x.greatest(30, 1), 2);
    }

    private static void greatestAsked() {
        CHECK.about("The GREATEST debt that holds; NONE if it can't be.");
        MoonDebts x = new MoonDebts();
        for (int g : new int[] {MIN, -1, 0, 999, 1000, MAX}) {
            for (int r : new int[] {MIN, -1, 0, 15, 16, 17, MAX}) {
                boolean can = g >= 0 && g <= 999 && r >= 0 && r <= 15;
                CHECK.same("greatest(" + g + ", " + r + ")", x.greatest(g, r), can ? g * r / (16 - r) : -1);
            }
        }
    }

    private static void namesAtLeast12Of16() {
        CHECK.about("the least m (1 .. n) for which 16 to m, less (16 - c) to m, is 12 of 16 or more of 16 to m");
        // 12 of 16 is just so with one, 8 of 16 with two: 256 less 64 is 192.
        int[] due = {-1, -1, 11, 7, 5, 4, 3, 3, 2, 2, 2, 2, 1, 1, 1, 1, 1};
        MoonDebts x = new MoonDebts();
        for (int c = 0; c <= 16; c++) {
            CHECK.same("names(60, " + c + ")", x.names(60, c), due[c]);
        }
    }

    private static void namesAtMostN() {
        CHECK.about("the least m (1 .. n)");
        int[] least = {-1, -1, 11, 7, 5, 4, 3, 3, 2, 2, 2, 2, 1, 1, 1, 1, 1};
        MoonDebts x = new MoonDebts();
        for (int c = 2; c <= 16; c++) {
            for (int n = 1; n <= 13; n++) {
                CHECK.same("names(" + n + ", " + c + ")", x.names(n, c), n >= least[c] ? least[c] : -1);
            }
        }
    }

    private static void namesAtMost12() {
        CHECK.about("(m at most 12; none else)");
        MoonDebts x = new MoonDebts();
        // With 1 of 16 it were 22.
        for (int n : new int[] {11, 12, 13, 21, 22, 23, 59, 60}) {
            CHECK.same("names(" + n + ", 1)", x.names(n, 1), -1);
            CHECK.same("names(" + n + ", 0)", x.names(n, 0), -1);
        }
    }

    private static void namesAsked() {
        CHECK.about("NONE if there is none, or it can't be (n 1 .. 60, c 0 .. 16).");
        MoonDebts x = new MoonDebts();
        for (int n : new int[] {MIN, -1, 0, 1, 2, 59, 60, 61, MAX}) {
            for (int c : new int[] {MIN, -1, 12, 16, 17, MAX}) {
                boolean can = n >= 1 && n <= 60 && c >= 0 && c <= 16;
                CHECK.same("names(" + n + ", " + c + ")", x.names(n, c), can ? 1 : -1);
            }
        }
    }

    private static void purseBelowTheLine() {
        CHECK.about("to SORTS whose COIN each is below a told line");
        MoonDebts x = Check.landOf("moon 5 0;strike 0 1;sort a 1 0 1 1 1 1;sort b 1 1 11 1 1 1;sort c 1 50 99 1 1 1;sort d 1 98 99 1 1 1;"
            + "sort e 1 99 99 1 1 1;");
        int[][] due = {{0, 0}, {1, 1}, {2, 11}, {50, 11}, {51, 60}, {98, 60}, {99, 61}, {100, 61}};
        for (int[] row : due) {
            CHECK.same("purse(" + row[0] + ", 0)", x.purse(row[0], 0), row[1]);
            CHECK.same("purse(" + row[0] + ", 1)", x.purse(row[0], 1), row[1]);
        }
    }

    private static void purseBeyondTheirCoin() {
        CHECK.about("NEEDED is what they want together beyond their own COIN (MANY times what WANT is above COIN)");
        int[][] due = {{50, 0, 99, 4950}, {50, 98, 99, 50}, {50, 99, 99, 0}, {50, 99, 0, 0}, {1, 5, 4, 0}, {1, 5, 5, 0}, {1, 5, 6, 1}, {7, 5, 8, 21}};
        for (int[] row : due) {
            MoonDebts x = Check.landOf("moon 5 0;strike 0 1;sort a " + row[0] + " " + row[1] + " " + row[2] + " 1 1 1;sort b 1 0 3 1 1 1;");
            CHECK.same("purse(100, 0) of M " + row[0] + ", C " + row[1] + ", W " + row[2], x.purse(100, 0), row[3] + 3);
            CHECK.same("purse(100, 1) of M " + row[0] + ", C " + row[1] + ", W " + row[2], x.purse(100, 1), row[3] + 3);
        }
        StringBuilder most = new StringBuilder("moon 5 0;strike 0 1;");
        for (int i = 0; i < 6; i++) {
            most.append("sort ").append((char) ('a' + i)).append(" 50 0 99 60 0 0;");
        }
        CHECK.same("purse(100, 0) of 6 SORTS", Check.landOf(most.toString()).purse(100, 0), 29700);
        CHECK.same("purse(1, 1) of 6 SORTS", Check.landOf(most.toString()).purse(1, 1), 29700);
    }

    private static void purseOnTheLastNight() {
        CHECK.about("The PURSE lends on the last night of a MOON (P - 1) .. times BACK at that night");
        // A WORK of one night is paid on the MOON, of two behind it; of P and one ahead of the second MOON, of P and two behind it.
        for (int p : new int[] {5, 6, 29, 30}) {
            int[][] due = {{1, 1000}, {2, 500}, {p + 1, 500}, {p + 2, 250}};
            for (int[] row : due) {
                MoonDebts x = Check.landOf("moon " + p + " 0;strike 8 1;sort a 10 0 99 " + row[0] + " 1 0;sort b 1 1 2 1 1 1;");
                CHECK.same("NEEDED", x.purse(1, 0), 990);
                CHECK.same("BACK of Y " + row[0] + " with P " + p, x.purse(1, 1), 990 * row[1] / 1000);
            }
        }
        MoonDebts second = Check.landOf("moon 5 0;strike 8 2;sort a 10 0 10 6 1 0;");
        CHECK.same("E 2: the second MOON is at night 10", second.purse(1, 1), 100);
        CHECK.same("E 2, one night more", Check.landOf("moon 5 0;strike 8 2;sort a 10 0 10 7 1 0;").purse(1, 1), 50);
        CHECK.same("a WORD counts", Check.landOf("moon 5 0;sort a 10 0 10 7 1 4;").purse(1, 1), 25);
        CHECK.same("CLOUDS count", Check.landOf("moon 5 8;sort a 10 0 10 2 1 0;").purse(1, 1), 50);
    }

    private static void purseIsCut() {
        CHECK.about("of each such SORT its NEED times BACK at that night by 1000 (cut)");
        // 3 times 500 by 1000 is 1 (cut), of each of four.
        MoonDebts x = Check.landOf("moon 5 0;strike 8 1;sort a 1 0 3 2 1 0;sort b 3 0 1 2 1 0;sort c 1 1 4 2 1 0;sort d 1 2 5 2 1 0;");
        CHECK.same("purse(100, 0)", x.purse(100, 0), 12);
        CHECK.same("purse(100, 1)", x.purse(100, 1), 4);
        CHECK.same("purse(2, 1)", x.purse(2, 1), 3);
    }

    private static void purseAsked() {
        CHECK.about("The PURSE for a line (0 .. 100): NEEDED (what 0), what is BACK of it (1); NONE for others, without a LAND, or if it can't be.");
        MoonDebts x = Check.landOf("moon 5 0;strike 0 1;sort a 1 0 3 1 1 1;");
        for (int line : new int[] {MIN, -1, 0, 1, 99, 100, 101, MAX}) {
            for (int what : new int[] {MIN, -1, 0, 1, 2, MAX}) {
                boolean can = line >= 0 && line <= 100 && (what == 0 || what == 1);
                CHECK.same("purse(" + line + ", " + what + ")", x.purse(line, what), !can ? -1 : line == 0 ? 0 : 3);
                CHECK.same("purse(" + line + ", " + what + ") without a LAND", new MoonDebts().purse(line, what), -1);
            }
        }
    }

    private static void parts() {
        CHECK.about("PARTS: .. in the k-th year of them (0 .. y - 1), d times (y less k) by y (cut) alone.");
        MoonDebts x = new MoonDebts();
        int[][] due = {{0, 20, 19, 0}, {1, 1, 0, 1}, {1, 2, 1, 0}, {1, 20, 0, 1}, {19, 20, 19, 0}, {20, 20, 19, 1}, {99999, 1, 0, 99999},
            {99999, 20, 0, 99999}, {99999, 20, 19, 4999}, {99999, 20, 1, 94999}, {99999, 7, 6, 14285}, {100, 3, 1, 66}};
        for (int[] row : due) {
            CHECK.same("part(" + row[0] + ", " + row[1] + ", " + row[2] + ")", x.part(row[0], row[1], row[2]), row[3]);
        }
    }

    private static void partAsked() {
        CHECK.about("a debt of d (0 .. 99999) in the k-th of y years; NONE if they can't be. (y years (1 .. 20), 0 .. y - 1)");
        MoonDebts x = new MoonDebts();
        for (int d : new int[] {MIN, -1, 0, 99999, 100000, MAX}) {
            CHECK.same("part(" + d + ", 20, 0)", x.part(d, 20, 0), d >= 0 && d <= 99999 ? d : -1);
            CHECK.same("part(" + d + ", 2, 1)", x.part(d, 2, 1), d >= 0 && d <= 99999 ? d / 2 : -1);
        }
        for (int y = -2; y <= 23; y++) {
            for (int k : new int[] {MIN, -1, 0, y - 1, y, y + 1, MAX}) {
                boolean can = y >= 1 && y <= 20 && k >= 0 && k < y;
                CHECK.same("part(840, " + y + ", " + k + ")", x.part(840, y, k), can ? 840 * (y - k) / y : -1);
            }
        }
        CHECK.same("part(0, MIN, 0)", x.part(0, MIN, 0), -1);
        CHECK.same("part(0, MAX, 0)", x.part(0, MAX, 0), -1);
    }

    private static void shrunkByParts() {
        CHECK.about("each year the owed is paid by p sixteenths (cut) of what is asked for");
        MoonDebts x = new MoonDebts();
        // Asked for are 100, then of what is left 4, 3, 2 fifths (cut).
        int[][] due = {{0, 1, 100}, {0, 4, 100}, {16, 1, 0}, {16, 4, 0}, {8, 1, 50}, {8, 2, 30}, {8, 3, 21}, {8, 4, 17}, {1, 1, 94}, {1, 2, 90},
            {15, 1, 7}, {15, 2, 3}, {15, 3, 3}};
        for (int[] row : due) {
            CHECK.same("shrunk(100, 500, " + row[0] + ", " + row[1] + ")", x.shrunk(100, 500, row[0], row[1]), row[2]);
        }
        // From the 2nd on: 3, 2 fifths.
        CHECK.same("shrunk(100, 502, 16, 1)", x.shrunk(100, 502, 16, 1), 40);
        CHECK.same("shrunk(100, 502, 16, 2)", x.shrunk(100, 502, 16, 2), 24);
        CHECK.same("shrunk(99999, 2000, 1, 1)", x.shrunk(99999, 2000, 1, 1), 99999 - 6249);
        CHECK.same("shrunk(99999, 2000, 0, 19)", x.shrunk(99999, 2000, 0, 19), 99999);
        CHECK.same("shrunk(1, 2000, 15, 19)", x.shrunk(1, 2000, 15, 19), 1);
        CHECK.same("shrunk(1, 2000, 16, 1)", x.shrunk(1, 2000, 16, 1), 0);
        CHECK.same("shrunk(1, 2001, 16, 18)", x.shrunk(1, 2001, 16, 18), 1);
    }

    private static void struckAtTheYth() {
        CHECK.about("(at the y-th all of it is struck, and it goes on from the 0-th)");
        MoonDebts x = new MoonDebts();
        for (int y = 1; y <= 20; y++) {
            for (int k : new int[] {0, y / 2, y - 1}) {
                for (int n : new int[] {y - k - 1, y - k, y - k + 1}) {
                    int due = n < 1 ? -1 : n < y - k ? 777 : 0;
                    CHECK.same("shrunk(777, " + (100 * y + k) + ", 0, " + n + ")", x.shrunk(777, 100 * y + k, 0, n), due);
                }
            }
        }
        CHECK.same("shrunk(99999, 2000, 0, 40)", x.shrunk(99999, 2000, 0, 40), 0);
        CHECK.same("shrunk(99999, 100, 16, 40)", x.shrunk(99999, 100, 16, 40), 0);
    }

    private static void shrunkAsked() {
        CHECK.about("p (0 .. 16) of what is asked for being paid (times: y * 100 and k) .. n years (1 .. 40); NONE if they can't be.");
        MoonDebts x = new MoonDebts();
        for (int d : new int[] {MIN, -1, 0, 1, 99999, 100000, MAX}) {
            CHECK.same("shrunk(" + d + ", 2000, 0, 1)", x.shrunk(d, 2000, 0, 1), d >= 0 && d <= 99999 ? d : -1);
            CHECK.same("shrunk(" + d + ", 100, 0, 1)", x.shrunk(d, 100, 0, 1), d >= 0 && d <= 99999 ? 0 : -1);
        }
        for (int p : new int[] {MIN, -1, 0, 1, 15, 16, 17, MAX}) {
            CHECK.same("shrunk(16, 2000, " + p + ", 1)", x.shrunk(16, 2000, p, 1), p >= 0 && p <= 16 ? 16 - p : -1);
        }
        for (int n : new int[] {MIN, -1, 0, 1, 19, 20, 39, 40, 41, MAX}) {
            CHECK.same("shrunk(16, 2000, 0, " + n + ")", x.shrunk(16, 2000, 0, n), n < 1 || n > 40 ? -1 : n < 20 ? 16 : 0);
        }
        int[] good = {100, 200, 201, 300, 302, 1900, 1918, 2000, 2019};
        for (int times : good) {
            CHECK.yes("shrunk(16, " + times + ", 0, 1)", x.shrunk(16, times, 0, 1) >= 0);
        }
        int[] bad = {MIN, -2000, -100, -1, 0, 1, 99, 101, 199, 202, 303, 1919, 1999, 2020, 2099, 2100, 2101, 10000, MAX};
        for (int times : bad) {
            CHECK.same("shrunk(16, " + times + ", 0, 1)", x.shrunk(16, times, 0, 1), -1);
        }
    }

    private static void cloudy() {
        CHECK.about("of n FULL MOONS at which is struck (1 .. 12) the chance that k or more are hidden, of 1000 (cut)");
        // CLOUDS, n, k, chance.
        int[][] due = {{0, 1, 0, 1000}, {0, 1, 1, 0}, {0, 12, 0, 1000}, {0, 12, 1, 0}, {0, 12, 12, 0}, {15, 1, 1, 937}, {15, 12, 0, 1000},
            {15, 12, 1, 999}, {15, 12, 12, 460}, {1, 1, 1, 62}, {1, 12, 12, 0}, {1, 12, 1, 539}, {8, 1, 1, 500}, {8, 2, 1, 750}, {8, 2, 2, 250},
            {8, 12, 6, 612}, {8, 12, 12, 0}, {8, 9, 9, 1}, {8, 10, 10, 0}};
        for (int[] row : due) {
            MoonDebts x = Check.landOf("moon 5 " + row[0] + ";strike 0 9;sort a 1 1 1 1 1 1;");
            CHECK.same("cloudy(" + row[1] + ", " + row[2] + ") of Q " + row[0], x.cloudy(row[1], row[2]), row[3]);
        }
    }

    private static void cloudyAsked() {
        CHECK.about("CLOUDY; NONE without a LAND, or if n (1 .. 12), k (0 .. n) can't be.");
        MoonDebts x = Check.landOf("moon 5 0;sort a 1 1 1 1 1 1;");
        for (int n = -2; n <= 15; n++) {
            for (int k : new int[] {MIN, -1, 0, 1, n - 1, n, n + 1, MAX}) {
                boolean can = n >= 1 && n <= 12 && k >= 0 && k <= n;
                CHECK.same("cloudy(" + n + ", " + k + ")", x.cloudy(n, k), !can ? -1 : k == 0 ? 1000 : 0);
                CHECK.same("cloudy(" + n + ", " + k + ") without a LAND", new MoonDebts().cloudy(n, k), -1);
            }
        }
        CHECK.same("cloudy(MIN, 0)", x.cloudy(MIN, 0), -1);
        CHECK.same("cloudy(MAX, 0)", x.cloudy(MAX, 0), -1);
    }
}
