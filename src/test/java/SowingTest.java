/** Promises 7 to 12: BACK and prices, LENT, YIELD, a MOON, the BEST LAW, who gains. */
final class SowingTest {
    private static final Check CHECK = new Check();

    public static void main(String[] args) {
        backByTheNight();
        backOfCloudsAndWords();
        prices();
        lentByTheDifference();
        lentAsFarAsItGoes();
        moons();
        bestLawStrikes();
        bestLawAtTheEdges();
        gains();
        CHECK.finish();
    }

    private static void backByTheNight() {
        MoonDebts x = Check.landOf("moon 10 0;strike 8 2;sort a 1 1 1 10 1 0;");
        // Struck is at 20, 40, ..: a loan of 10 nights is paid ahead of it on night 20 when it is lent on night 10.
        int[][] due = {{0, 1000}, {10, 1000}, {11, 500}, {19, 500}, {20, 1000}, {30, 1000}, {31, 500}, {500, 1000}, {499, 500}};
        for (int[] row : due) {
            CHECK.same("back(0, " + row[0] + ", 0)", x.back(0, row[0], 0), row[1]);
        }
        CHECK.same("back(0, -1, 0)", x.back(0, -1, 0), -1);
        CHECK.same("back(0, 501, 0)", x.back(0, 501, 0), -1);
        CHECK.same("back(1, 0, 0)", x.back(1, 0, 0), -1);
        CHECK.same("back(-1, 0, 0)", x.back(-1, 0, 0), -1);
        CHECK.same("back(0, 0, 3)", x.back(0, 0, 3), -1);
        CHECK.same("back(0, 0, -1)", x.back(0, 0, -1), -1);
    }

    private static void backOfCloudsAndWords() {
        // Each MOON leaves 256 - 5 * (16 - 3) = 191 of 256: 1000, 746, 556; then 444 * 7 / 16 = 194 more.
        MoonDebts x = Check.landOf("moon 7 3;strike 5 1;sort a 1 1 1 15 1 7;sort b 1 1 1 15 1 0;");
        CHECK.same("BACK with a WORD", x.back(0, 0, 0), 750);
        CHECK.same("BACK without", x.back(1, 0, 0), 556);
        MoonDebts all = Check.landOf("moon 5 0;sort a 1 1 1 60 1 0;sort b 1 1 1 60 1 16;");
        CHECK.same("BACK of what is struck whole", all.back(0, 0, 0), 0);
        CHECK.same("BACK of a whole WORD", all.back(1, 0, 0), 1000);
    }

    private static void prices() {
        MoonDebts x = Check.landOf("moon 10 0;strike 8 1;wait 7;sort a 1 1 3 9 2 0;sort b 1 1 1 60 99 0;sort c 1 1 0 3 5 0;"
            + "sort d 1 1 20 11 80 0;sort e 1 1 20 11 81 3;");
        CHECK.same("LEAST PRICE of 7 * 9 / 10", x.back(0, 0, 1), 6);
        CHECK.same("MOST of 2 * 100 / 3", x.back(0, 0, 2), 66);
        CHECK.same("no LEAST PRICE", x.back(1, 0, 1), -1);
        CHECK.same("MOST is 400 at most", x.back(1, 0, 2), 400);
        CHECK.same("no MOST", x.back(2, 0, 2), -1);
        // Half is back and 107 must be: 214.
        CHECK.same("LEAST PRICE of half", x.back(3, 0, 1), 114);
        CHECK.same("MOST of just 400", x.back(3, 0, 2), 400);
        // 500 and 93: 181 times 593 is 107333, 180 times 593 is 106740.
        CHECK.same("BACK of a small WORD", x.back(4, 0, 0), 593);
        CHECK.same("LEAST PRICE of 593", x.back(4, 0, 1), 81);
        // All is struck, a quarter is back by WORD: 125 need 500, 126 need 504.
        MoonDebts edge = Check.landOf("moon 30 0;wait 5;sort a 1 1 1 50 99 4;sort b 1 1 1 52 99 4;");
        CHECK.same("BACK of a quarter", edge.back(0, 0, 0), 250);
        CHECK.same("LEAST PRICE at the edge", edge.back(0, 0, 1), 400);
        CHECK.same("LEAST PRICE beyond the edge", edge.back(1, 0, 1), -1);
        CHECK.same("a price of 400 is lent at", edge.lent(0, 0), 1);
        CHECK.same("none is not", edge.lent(1, 0), 0);
        // 322 and 100 times 237 by 1000 is 100 (cut), 321 and 100 is 99.
        MoonDebts cut = Check.landOf("moon 30 0;strike 13 1;sort a 1 1 1 31 99 1;");
        CHECK.same("BACK of 187 and 50", cut.back(0, 0, 0), 237);
        CHECK.same("LEAST PRICE of 237", cut.back(0, 0, 1), 322);
    }

    private static void lentByTheDifference() {
        // Differences 50, 100, 100; the COIN is 100.
        MoonDebts x = Check.landOf("moon 10 0;strike 0 1;sort r 1 90 0 1 0 0;sort a 3 0 20 5 10 0;sort b 2 0 20 5 20 0;"
            + "sort c 2 5 20 5 20 0;");
        CHECK.same("the greatest first, the least SORT", x.lent(2, 0), 40);
        CHECK.same("then the like one", x.lent(3, 0), 40);
        CHECK.same("then what is left", x.lent(1, 0), 20);
        CHECK.same("who wants nothing", x.lent(0, 0), 0);
        CHECK.same("SOWN", x.lent(-1, 0), 100);
        CHECK.same("YIELD", x.brought(0), 40 + 40 + 10);
        CHECK.same("lent(4, 0)", x.lent(4, 0), -1);
        CHECK.same("lent(-2, 0)", x.lent(-2, 0), -1);
        CHECK.same("lent(0, -1)", x.lent(0, -1), -1);
        CHECK.same("lent(-1, 500)", x.lent(-1, 500), 100);
        CHECK.same("lent(-1, 501)", x.lent(-1, 501), -1);
        CHECK.same("brought(-1)", x.brought(-1), -1);
        CHECK.same("brought(500)", x.brought(500), 90);
        CHECK.same("brought(501)", x.brought(501), -1);
    }

    private static void lentAsFarAsItGoes() {
        // LEAST PRICE 5 and MOST 5 is lent; MOST 4 is not; the YIELD of each SORT is cut alone.
        MoonDebts x = Check.landOf("moon 10 0;strike 0 1;wait 10;sort a 1 99 20 5 1 0;sort b 1 0 25 5 1 0;sort c 1 0 7 1 3 0;"
            + "sort d 1 0 0 1 9 0;");
        CHECK.same("LEAST PRICE like MOST", x.lent(0, 0), 20);
        CHECK.same("LEAST PRICE above MOST", x.lent(1, 0), 0);
        CHECK.same("c", x.lent(2, 0), 7);
        CHECK.same("no want", x.lent(3, 0), 0);
        CHECK.same("SOWN", x.lent(-1, 3), 27);
        CHECK.same("YIELD", x.brought(3), 1 + 3);
        MoonDebts cut = Check.landOf("moon 10 0;strike 0 1;sort a 1 8 7 1 3 0;sort b 1 0 7 1 3 0;");
        CHECK.same("YIELD cut", cut.brought(0), 3 + 0);
        CHECK.same("the rest", cut.lent(1, 0), 1);
    }

    private static void moons() {
        MoonDebts x = Check.landOf("moon 10 0;strike 8 1;sort a 2 50 0 5 0 0;sort b 3 0 20 4 10 0;sort c 1 5 40 12 20 8;");
        // b takes 60 on nights 0 .. 6, c takes 40 on nights 0 .. 8 (on night 9 two MOONS come: 625, price 60).
        CHECK.same("moon(8, 1, 0)", x.moon(8, 1, 0), 7 * 60 + 9 * 40);
        CHECK.same("moon(8, 1, 1)", x.moon(8, 1, 1), 7 * 30 + 9 * 20);
        CHECK.same("moon(0, 1, 0)", x.moon(0, 1, 0), 1000);
        CHECK.same("moon(16, 2, 0)", x.moon(16, 2, 0), 10 * 60 + 9 * 40);
        CHECK.same("moon(16, 3, 0)", x.moon(16, 3, 0), 1000);
        CHECK.same("moon(16, 9, 1)", x.moon(16, 9, 1), 500);
        CHECK.same("moon(17, 1, 0)", x.moon(17, 1, 0), -1);
        CHECK.same("moon(-1, 1, 0)", x.moon(-1, 1, 0), -1);
        CHECK.same("moon(0, 0, 0)", x.moon(0, 0, 0), -1);
        CHECK.same("moon(0, 10, 0)", x.moon(0, 10, 0), -1);
        CHECK.same("moon(0, 1, 2)", x.moon(0, 1, 2), -1);
        CHECK.same("moon(0, 1, -1)", x.moon(0, 1, -1), -1);
        CHECK.same("best(0)", x.best(0), 0);
        CHECK.same("best(1)", x.best(1), 1);
        CHECK.same("best(2)", x.best(2), 500);
        CHECK.same("best(3)", x.best(3), -1);
        CHECK.same("best(-1)", x.best(-1), -1);
    }

    private static void bestLawStrikes() {
        // a's WORK of one night ends ahead of each MOON, so no law keeps it from going ahead of b, who would bring more.
        MoonDebts x = Check.landOf("moon 5 0;wait 50;sort r 1 50 0 1 0 0;sort a 1 0 50 1 30 0;sort b 1 0 50 6 40 16;");
        CHECK.same("best(0) where no law helps", x.best(0), 0);
        CHECK.same("best(1) where no law helps", x.best(1), 1);
        CHECK.same("best(2) where no law helps", x.best(2), 150);
        MoonDebts z = Check.landOf("moon 5 0;wait 50;sort r 1 50 0 1 0 0;sort a 1 0 50 6 30 0;sort b 1 0 50 10 32 16;");
        // LEAST PRICES 30 and 50, MOSTS 60 and 64: a goes ahead, till what is struck takes more than 16 off its difference.
        CHECK.same("S 0", z.moon(0, 1, 1), 150);
        CHECK.same("best(2)", z.best(2), 160);
        CHECK.same("best(0)", z.best(0), 2);
        CHECK.same("best(1)", z.best(1), 1);
        CHECK.same("S 1", z.moon(1, 1, 1), 150);
        CHECK.same("S 2", z.moon(2, 1, 1), 160);
    }

    private static void bestLawAtTheEdges() {
        // a (LEAST PRICE 230, MOST 245) must be struck, c (205, 210) must not, or b (300, 310) is left with COIN over:
        // night 45 alone is within the 46 nights of a and not within the 41 of c.
        MoonDebts seldom = Check.landOf("moon 5 0;wait 50;sort r 2 50 0 1 0 0;sort a 3 0 40 46 98 0;sort b 3 0 30 60 93 16;"
            + "sort c 1 0 10 41 21 0;");
        CHECK.same("S of E 9", seldom.best(0), 1);
        CHECK.same("E 9", seldom.best(1), 9);
        CHECK.same("YIELD of E 9", seldom.best(2), 5 * (279 + 21));
        CHECK.same("YIELD of E 8", seldom.moon(1, 8, 1), 5 * 279);
        CHECK.same("YIELD without", seldom.moon(0, 1, 1), 5 * 245);
        // Up to S 15 a can be lent to at 166, with a difference of 0 like that of c, who comes behind it.
        MoonDebts whole = Check.landOf("moon 30 15;wait 50;sort r 2 50 0 1 0 0;sort a 2 0 50 30 83 0;sort c 3 0 49 40 98 16;");
        CHECK.same("S 16", whole.best(0), 16);
        CHECK.same("E of S 16", whole.best(1), 1);
        CHECK.same("YIELD of S 16", whole.best(2), 166 + 29 * 200);
        CHECK.same("YIELD of S 15", whole.moon(15, 1, 1), 30 * 166);
    }

    private static void gains() {
        MoonDebts x = Check.landOf("moon 10 0;strike 8 1;sort a 2 50 0 5 0 0;sort b 3 0 20 4 10 0;sort c 1 5 90 12 45 16;");
        // b goes ahead on nights 0 .. 6 and gets nothing on 7 .. 9, when c, whose WORD is whole, takes 90 in place of 45.
        CHECK.same("gains(0)", x.gains(0), 0);
        CHECK.same("gains(1)", x.gains(1), -180);
        CHECK.same("gains(2)", x.gains(2), 3 * 45);
        CHECK.same("gains(3)", x.gains(3), -999999);
        CHECK.same("gains(-1)", x.gains(-1), -999999);
    }
}
