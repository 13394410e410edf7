/** Part 2 of Terms and promises 7 to 12 at their edges: a method for each sentence that names one. */
final class SowingEdgesTest {
    private static final Check CHECK = new Check();

    public static void main(String[] args) {
        fullMoons();
        afterAndBefore();
        bySixteenths();
        cutEachTime();
        wordsMore();
        leastPrice();
        noLeastPrice();
        most();
        backAsked();
        whoIsLentTo();
        greatestFirst();
        asFarAsItGoes();
        allCoinIsOne();
        lentAsked();
        broughtAsked();
        yieldIsCut();
        mostOfAll();
        nightsOfMoon();
        moonAsked();
        bestOfLikeOnes();
        bestAsked();
        gainsAsked();
        CHECK.finish();
    }

    private static void fullMoons() {
        CHECK.about("a night that is a multiple of P, but not 0, is a FULL MOON, the k-th of them at night k * P; at each one that is a"
            + " multiple of E in number what is owed is struck");
        int[][] laws = {{5, 1}, {5, 9}, {30, 1}, {30, 9}, {7, 3}, {6, 2}};
        for (int[] law : laws) {
            MoonDebts x = Check.landOf("moon " + law[0] + " 0;strike 8 " + law[1] + ";sort a 1 1 1 2 1 0;");
            for (int night = 1; night <= 501; night++) {
                // Two nights of WORK have this night alone between them.
                int due = night % law[0] == 0 && night / law[0] % law[1] == 0 ? 500 : 1000;
                CHECK.same("back(0, " + (night - 1) + ", 0) of P " + law[0] + ", E " + law[1], x.back(0, night - 1, 0), due);
            }
        }
    }

    private static void afterAndBefore() {
        CHECK.about("its WORK is done, and it is paid, at t + Y, ahead of what is struck that night / after t and before t + Y");
        MoonDebts x = Check.landOf("moon 10 0;strike 8 1;sort a 1 1 1 1 1 0;sort b 1 1 1 10 1 0;sort c 1 1 1 11 1 0;sort d 1 1 1 20 1 0;"
            + "sort e 1 1 1 21 1 0;sort f 1 1 1 60 1 0;");
        int[][] due = {{0, 1000, 1000, 500, 500, 250, 31}, {1, 1000, 500, 500, 250, 250, 15}, {8, 1000, 500, 500, 250, 250, 15},
            {9, 1000, 500, 500, 250, 250, 15}, {10, 1000, 1000, 500, 500, 250, 31}, {11, 1000, 500, 500, 250, 250, 15}};
        for (int[] row : due) {
            for (int sort = 0; sort < 6; sort++) {
                CHECK.same("back(" + sort + ", " + row[0] + ", 0)", x.back(sort, row[0], 0), row[sort + 1]);
                CHECK.same("back(" + sort + ", 490 more, 0)", x.back(sort, row[0] + (row[0] > 10 ? 480 : 490), 0), row[sort + 1]);
            }
        }
        // Of 60 nights from 30 on, 90 alone is a ninth MOON of 10, and it is paid ahead of that.
        MoonDebts ninth = Check.landOf("moon 10 0;strike 8 9;sort a 1 1 1 60 1 0;");
        int[][] ninths = {{0, 1000}, {30, 1000}, {31, 500}, {89, 500}, {90, 1000}, {120, 1000}, {121, 500}, {179, 500}, {180, 1000}};
        for (int[] row : ninths) {
            CHECK.same("back(0, " + row[0] + ", 0) of E 9", ninth.back(0, row[0], 0), row[1]);
        }
    }

    private static void bySixteenths() {
        CHECK.about("b times (256 less S times (16 - Q)) by 256 (cut)");
        // S, Q, BACK behind one MOON, and behind two.
        int[][] due = {{0, 0, 1000, 1000}, {0, 15, 1000, 1000}, {1, 0, 937, 878}, {1, 15, 996, 992}, {16, 15, 937, 878}, {15, 0, 62, 3},
            {15, 15, 941, 885}, {16, 0, 0, 0}, {16, 1, 62, 3}, {8, 0, 500, 250}, {8, 8, 750, 562}};
        for (int[] row : due) {
            MoonDebts x = Check.landOf("moon 5 " + row[1] + ";strike " + row[0] + " 1;sort a 1 1 1 6 1 0;sort b 1 1 1 11 1 0;");
            CHECK.same("one MOON of S " + row[0] + ", Q " + row[1], x.back(0, 0, 0), row[2]);
            CHECK.same("two MOONS of S " + row[0] + ", Q " + row[1], x.back(1, 0, 0), row[3]);
        }
    }

    private static void cutEachTime() {
        CHECK.about("for each FULL MOON .. (cut)");
        // 1000, 996, 992, .. 956 at the 11th, 952 at the 12th: cut once at the end it were 957 and 954.
        MoonDebts x = Check.landOf("moon 5 15;strike 1 1;sort a 1 1 1 60 1 0;");
        CHECK.same("11 MOONS", x.back(0, 0, 0), 956);
        CHECK.same("11 MOONS, from a MOON on", x.back(0, 5, 0), 956);
        CHECK.same("12 MOONS", x.back(0, 1, 0), 952);
        CHECK.same("12 MOONS, from the night ahead of one on", x.back(0, 4, 0), 952);
        CHECK.same("11 MOONS, from night 500 on", x.back(0, 500, 0), 956);
        CHECK.same("12 MOONS, from night 499 on", x.back(0, 499, 0), 952);
    }

    private static void wordsMore() {
        CHECK.about("then (1000 less b) times K by 16 (cut) more");
        int[][] whole = {{0, 0}, {1, 62}, {2, 125}, {8, 500}, {15, 937}, {16, 1000}};
        for (int[] row : whole) {
            MoonDebts x = Check.landOf("moon 5 0;sort a 1 1 1 6 1 " + row[0] + ";");
            CHECK.same("K " + row[0] + " of 0", x.back(0, 0, 0), row[1]);
            MoonDebts y = Check.landOf("moon 5 0;sort a 1 1 1 5 1 " + row[0] + ";");
            CHECK.same("K " + row[0] + " where nothing is struck", y.back(0, 0, 0), 1000);
        }
        // 63 are gone: a sixteenth of it is 3, 15 are 59.
        int[][] few = {{0, 937}, {1, 940}, {15, 996}, {16, 1000}};
        for (int[] row : few) {
            CHECK.same("K " + row[0] + " of 937", Check.landOf("moon 5 0;strike 1 1;sort a 1 1 1 6 1 " + row[0] + ";").back(0, 0, 0), row[1]);
        }
    }

    private static int priceOf(String law, int work, int word) {
        return Check.landOf(law + "sort a 1 1 1 " + work + " 1 " + word + ";").back(0, 0, 1);
    }

    private static void leastPrice() {
        CHECK.about("The LEAST PRICE is the least p, 0 .. 400, with which (100 and p) times b by 1000 (cut) is 100 and Z times Y by 10 (cut),"
            + " or more");
        CHECK.same("without a wait", priceOf("moon 30 0;", 30, 0), 0);
        CHECK.same("9 by 10", priceOf("moon 30 0;wait 1;", 9, 0), 0);
        CHECK.same("10 by 10", priceOf("moon 30 0;wait 1;", 10, 0), 1);
        CHECK.same("19 by 10", priceOf("moon 30 0;wait 1;", 19, 0), 1);
        CHECK.same("the longest wait", priceOf("moon 30 0;strike 0 1;wait 50;", 60, 0), 300);
        CHECK.same("the longest wait of one night", priceOf("moon 30 0;wait 50;", 1, 0), 5);
        // Of 750 374 come with 499, not with 498; of 765 382 with 500, not with 499.
        CHECK.same("399", priceOf("moon 30 0;strike 4 1;wait 49;", 56, 0), 399);
        CHECK.same("400", priceOf("moon 30 0;strike 4 1;wait 47;", 60, 1), 400);
        // Of 500 100 come with 200, and 200 times 996 by 1000 is 199 (cut).
        CHECK.same("half", priceOf("moon 5 0;strike 8 1;", 6, 0), 100);
        CHECK.same("996", priceOf("moon 5 15;strike 1 1;", 6, 0), 1);
        CHECK.same("937", priceOf("moon 5 0;strike 1 1;", 6, 0), 7);
        // 359 times 961 is 344999: by one too little for 345.
        CHECK.same("961", priceOf("moon 30 3;strike 1 1;wait 49;", 50, 4), 260);
    }

    private static void noLeastPrice() {
        CHECK.about("LEAST PRICE .. none, if none is.");
        // Of 765 383 come with 501 alone.
        CHECK.same("401", priceOf("moon 30 0;strike 4 1;wait 48;", 59, 1), -1);
        CHECK.same("nothing is BACK", priceOf("moon 5 0;", 6, 0), -1);
        CHECK.same("3 of 1000", priceOf("moon 5 0;strike 15 1;", 11, 0), -1);
        // 200 of 1000 would bring 100 with 500: 187 do not.
        CHECK.same("187", priceOf("moon 5 0;", 6, 3), -1);
        CHECK.same("250", priceOf("moon 5 0;", 6, 4), 300);
    }

    private static void most() {
        CHECK.about("The MOST is G times 100 by W (cut), 400 at most (none, if W is 0).");
        int[][] due = {{0, 1, 0}, {1, 99, 1}, {0, 99, 0}, {98, 99, 98}, {99, 98, 101}, {99, 25, 396}, {99, 24, 400}, {4, 1, 400}, {5, 1, 400},
            {99, 1, 400}, {8, 2, 400}, {2, 3, 66}, {0, 0, -1}, {99, 0, -1}};
        for (int[] row : due) {
            MoonDebts x = Check.landOf("moon 5 0;sort a 1 1 " + row[1] + " 1 " + row[0] + " 0;");
            CHECK.same("back(0, 0, 2) of G " + row[0] + ", W " + row[1], x.back(0, 0, 2), row[2]);
            CHECK.same("back(0, 500, 2) of G " + row[0] + ", W " + row[1], x.back(0, 500, 2), row[2]);
        }
    }

    private static void backAsked() {
        CHECK.about("BACK (what 0) of a SORT's loan from a night (0 .. 500) on, the LEAST PRICE (1), the MOST (2); NONE for others, if there"
            + " is none, or none such.");
        MoonDebts x = Check.landOf("moon 5 0;strike 0 1;sort a 1 1 1 1 1 0;sort b 1 1 2 1 1 0;");
        int[] due = {1000, 0, 100};
        for (int what = -2; what <= 4; what++) {
            for (int night : new int[] {Integer.MIN_VALUE, -1, 0, 1, 499, 500, 501, Integer.MAX_VALUE}) {
                boolean there = what >= 0 && what <= 2 && night >= 0 && night <= 500;
                CHECK.same("back(0, " + night + ", " + what + ")", x.back(0, night, what), there ? due[what] : -1);
            }
        }
        for (int sort : new int[] {Integer.MIN_VALUE, -2, -1, 2, 3, 6, Integer.MAX_VALUE}) {
            for (int what = 0; what <= 2; what++) {
                CHECK.same("back(" + sort + ", 0, " + what + ")", x.back(sort, 0, what), -1);
            }
        }
        CHECK.same("back(1, 0, 2)", x.back(1, 0, 2), 50);
    }

    private static void whoIsLentTo() {
        CHECK.about("goes to SORTS that want (MANY times WANT each) and whose LEAST PRICE isn't above their MOST");
        // LEAST PRICE 5 each: MOST 5, 4, 6, 0 and none.
        MoonDebts x = Check.landOf("moon 10 0;strike 0 1;wait 10;sort a 50 99 20 5 1 0;sort b 1 0 25 5 1 0;sort c 2 0 50 5 3 0;"
            + "sort d 1 0 9 5 0 0;sort e 1 0 0 5 99 0;");
        int[] due = {1000, 0, 100, 0, 0};
        for (int sort = 0; sort < 5; sort++) {
            CHECK.same("lent(" + sort + ", 0)", x.lent(sort, 0), due[sort]);
        }
        CHECK.same("SOWN", x.lent(-1, 0), 1100);
        // MOST 0 is enough for LEAST PRICE 0; where none is, no MOST is.
        MoonDebts y = Check.landOf("moon 5 0;sort a 1 99 9 1 0 0;sort b 1 0 9 6 99 0;");
        CHECK.same("0 and 0", y.lent(0, 0), 9);
        CHECK.same("400 and none", y.lent(1, 0), 0);
        CHECK.same("at a MOON", y.lent(1, 5), 0);
        CHECK.same("LEAST PRICE like MOST, both 400", Check.landOf("moon 30 0;strike 4 1;wait 47;sort a 1 9 9 60 99 1;").lent(0, 0), 9);
    }

    private static void greatestFirst() {
        CHECK.about("by the difference of both, the greatest first, of like ones the least SORT");
        // Differences 10, 11, 11, 12, 11.
        MoonDebts x = Check.landOf("moon 10 0;strike 0 1;sort a 1 35 10 1 1 0;sort b 1 0 9 1 1 0;sort c 1 0 9 1 1 0;sort d 1 0 8 1 1 0;"
            + "sort e 1 0 9 1 1 0;");
        int[] due = {0, 9, 9, 8, 9};
        for (int sort = 0; sort < 5; sort++) {
            CHECK.same("lent(" + sort + ", 3)", x.lent(sort, 3), due[sort]);
        }
        MoonDebts y = Check.landOf("moon 10 0;strike 0 1;sort a 1 34 10 1 1 0;sort b 1 0 9 1 1 0;sort c 1 0 9 1 1 0;sort d 1 0 8 1 1 0;"
            + "sort e 1 0 9 1 1 0;");
        CHECK.same("the last of like ones", y.lent(4, 3), 8);
        CHECK.same("the first of like ones", y.lent(1, 3), 9);
        // A difference of 0 is the least, and it is lent to.
        MoonDebts z = Check.landOf("moon 10 0;strike 0 1;sort a 1 11 10 1 0 0;sort b 1 0 10 1 1 0;");
        CHECK.same("a difference of 0", z.lent(0, 0), 1);
        CHECK.same("a difference of 10", z.lent(1, 0), 10);
    }

    private static void asFarAsItGoes() {
        CHECK.about("as far as it goes");
        int[][] due = {{0, 0, 0}, {1, 1, 0}, {29, 29, 0}, {30, 30, 0}, {31, 30, 1}, {49, 30, 19}, {50, 30, 20}, {51, 30, 20}, {99, 30, 20}};
        for (int[] row : due) {
            MoonDebts x = Check.landOf("moon 10 0;strike 0 1;sort r 1 " + row[0] + " 0 1 0 0;sort a 3 0 10 1 9 0;sort b 2 0 10 1 8 0;");
            CHECK.same("lent(1, 0) of COIN " + row[0], x.lent(1, 0), row[1]);
            CHECK.same("lent(2, 0) of COIN " + row[0], x.lent(2, 0), row[2]);
            CHECK.same("lent(-1, 0) of COIN " + row[0], x.lent(-1, 0), row[1] + row[2]);
            CHECK.same("brought(0) of COIN " + row[0], x.brought(0), row[1] * 9 / 10 + row[2] * 8 / 10);
        }
    }

    private static void allCoinIsOne() {
        CHECK.about("(all COIN is one)");
        MoonDebts x = Check.landOf("moon 10 0;strike 0 1;sort a 2 6 10 1 1 0;sort b 3 1 10 1 9 0;");
        CHECK.same("b takes 15 of 15", x.lent(1, 0), 15);
        CHECK.same("a's own COIN is gone", x.lent(0, 0), 0);
        MoonDebts own = Check.landOf("moon 10 0;strike 0 1;sort a 2 6 10 1 1 0;");
        CHECK.same("a SORT takes its own", own.lent(0, 0), 12);
    }

    private static void lentAsked() {
        CHECK.about("LENT to a SORT on a night, or (sort NONE) SOWN; NONE if there are none such.");
        MoonDebts x = Check.landOf("moon 10 0;strike 0 1;sort a 2 6 3 1 1 0;sort b 3 1 1 1 1 0;");
        int[] nights = {Integer.MIN_VALUE, -2, -1, 0, 1, 9, 10, 500, 501, Integer.MAX_VALUE};
        for (int night : nights) {
            boolean there = night >= 0 && night <= 500;
            CHECK.same("lent(-1, " + night + ")", x.lent(-1, night), there ? 9 : -1);
            CHECK.same("lent(0, " + night + ")", x.lent(0, night), there ? 6 : -1);
            CHECK.same("lent(1, " + night + ")", x.lent(1, night), there ? 3 : -1);
            for (int sort : new int[] {Integer.MIN_VALUE, -3, -2, 2, 5, 6, Integer.MAX_VALUE}) {
                CHECK.same("lent(" + sort + ", " + night + ")", x.lent(sort, night), -1);
            }
        }
    }

    private static void broughtAsked() {
        CHECK.about("YIELD of a night; NONE if there is none such, or no LAND.");
        MoonDebts x = Check.landOf("moon 10 0;sort a 2 6 3 2 1 0;");
        int[][] due = {{Integer.MIN_VALUE, -1}, {-1, -1}, {0, 2}, {8, 2}, {9, 0}, {10, 2}, {499, 0}, {500, 2}, {501, -1},
            {Integer.MAX_VALUE, -1}};
        for (int[] row : due) {
            CHECK.same("brought(" + row[0] + ")", x.brought(row[0]), row[1]);
            CHECK.same("brought(" + row[0] + ") without a LAND", new MoonDebts().brought(row[0]), -1);
        }
    }

    private static void yieldIsCut() {
        CHECK.about("YIELD what it brings: of each SORT what it takes times G by W (cut).");
        MoonDebts y = Check.landOf("moon 10 0;strike 0 1;sort r 1 50 0 1 99 0;sort a 20 0 1 1 0 0;sort b 7 0 3 1 2 0;sort c 7 0 3 1 2 0;");
        CHECK.same("21, 21 and 8 that bring nothing", y.brought(0), 14 + 14 + 0);
        MoonDebts z = Check.landOf("moon 10 0;strike 0 1;sort r 1 40 0 1 99 0;sort b 10 0 2 1 1 0;sort c 7 0 3 1 2 0;sort d 7 0 3 1 2 0;");
        CHECK.same("21, and of 19 two thirds cut", z.brought(0), 14 + 12);
    }

    private static void mostOfAll() {
        CHECK.about("6 SORTS of 50 with COIN 99 and WANT 99");
        StringBuilder text = new StringBuilder("moon 30 0;strike 0 1;");
        for (int i = 0; i < 6; i++) {
            text.append("sort ").append((char) ('a' + i)).append(" 50 99 99 1 99 0;");
        }
        MoonDebts x = Check.landOf(text.toString());
        CHECK.same("SOWN", x.lent(-1, 0), 29700);
        CHECK.same("the last SORT", x.lent(5, 0), 4950);
        CHECK.same("YIELD", x.brought(0), 29700);
        CHECK.same("a MOON's SOWN", x.moon(0, 1, 0), 891000);
        CHECK.same("a MOON's YIELD", x.moon(16, 9, 1), 891000);
        CHECK.same("best(2)", x.best(2), 891000);
    }

    private static void nightsOfMoon() {
        CHECK.about("A MOON's SOWN: that of its nights 0 .. P - 1, each from the whole COIN and all wants, together.");
        for (int p = 5; p <= 30; p++) {
            // On the last night alone what is lent for two nights is struck.
            MoonDebts x = Check.landOf("moon " + p + " 0;sort a 7 1 1 2 3 0;");
            CHECK.same("moon(16, 1, 0) of P " + p, x.moon(16, 1, 0), 7 * (p - 1));
            CHECK.same("moon(16, 1, 1) of P " + p, x.moon(16, 1, 1), 21 * (p - 1));
            CHECK.same("moon(0, 1, 0) of P " + p, x.moon(0, 1, 0), 7 * p);
            CHECK.same("moon(16, 2, 0) of P " + p, x.moon(16, 2, 0), 7 * p);
        }
    }

    private static void moonAsked() {
        CHECK.about("A MOON's SOWN (what 0), YIELD (1), if S of 16 were struck at each E-th MOON; NONE for others, or if they can't be.");
        MoonDebts x = Check.landOf("moon 5 0;strike 3 3;sort a 1 2 1 60 1 16;");
        for (int s = -2; s <= 18; s++) {
            for (int e = -1; e <= 11; e++) {
                boolean can = s >= 0 && s <= 16 && e >= 1 && e <= 9;
                CHECK.same("moon(" + s + ", " + e + ", 1)", x.moon(s, e, 1), can ? 5 : -1);
            }
        }
        for (int what : new int[] {Integer.MIN_VALUE, -1, 0, 1, 2, Integer.MAX_VALUE}) {
            CHECK.same("moon(0, 1, " + what + ")", x.moon(0, 1, what), what == 0 || what == 1 ? 5 : -1);
        }
        CHECK.same("moon(MAX, 1, 0)", x.moon(Integer.MAX_VALUE, 1, 0), -1);
        CHECK.same("moon(0, MAX, 0)", x.moon(0, Integer.MAX_VALUE, 0), -1);
        CHECK.same("moon(MIN, 1, 0)", x.moon(Integer.MIN_VALUE, 1, 0), -1);
        CHECK.same("moon(0, MIN, 0)", x.moon(0, Integer.MIN_VALUE, 0), -1);
        // The law that is told is asked for, not that of the LAND.
        MoonDebts y = Check.landOf("moon 5 0;strike 0 9;sort a 1 1 1 2 1 0;");
        CHECK.same("moon(16, 1, 0)", y.moon(16, 1, 0), 4);
        CHECK.same("moon(16, 2, 0)", y.moon(16, 2, 0), 5);
    }

    private static void bestOfLikeOnes() {
        CHECK.about("BEST LAW: S 0 .. 16, E 1 .. 9 with which a MOON's YIELD is greatest, of like ones the least S, then E.");
        best("moon 5 0;strike 16 9;sort a 1 0 1 1 1 0;", 0, 1, 0);
        best("moon 5 0;strike 16 9;sort a 1 1 1 1 0 0;", 0, 1, 0);
        best("moon 5 0;strike 16 9;sort a 1 1 1 1 1 0;", 0, 1, 5);
        best("moon 5 0;strike 16 1;sort a 1 1 1 60 1 0;", 0, 1, 5);
        // LEAST PRICES 10 and 20, MOSTS 60 and 64: a goes ahead of b, who brings more, but on night 4, if 1 of 16 is struck at night 5.
        best("moon 5 0;wait 50;sort r 1 50 0 1 0 0;sort a 1 0 50 2 30 0;sort b 1 0 50 4 32 16;", 1, 1, 4 * 30 + 32);
        // Both MOSTS are 400, so a goes ahead of b, who brings more, but on the last night, if that alone is struck.
        best("moon 5 0;sort a 1 10 10 2 50 0;sort b 1 0 10 1 60 0;", 1, 1, 4 * 50 + 60);
        best("moon 5 0;sort a 1 10 10 2 50 0;sort b 1 0 10 2 60 16;", 1, 1, 4 * 50 + 60);
        best("moon 30 0;sort b 1 0 10 1 50 0;sort a 1 10 10 2 60 0;", 0, 1, 30 * 50);
        // 60 nights of WORK see both MOONS of 30 from night 1 on, so a is struck each night with E 1, and with E 2 but on night 0.
        best("moon 30 0;sort a 1 10 10 60 50 0;sort b 1 0 10 1 60 0;", 1, 1, 30 * 60);
    }

    private static void best(String text, int s, int e, int yield) {
        MoonDebts x = Check.landOf(text);
        CHECK.same("best(0) of " + text, x.best(0), s);
        CHECK.same("best(1) of " + text, x.best(1), e);
        CHECK.same("best(2) of " + text, x.best(2), yield);
        CHECK.same("its MOON of " + text, x.moon(s, e, 1), yield);
    }

    private static void bestAsked() {
        CHECK.about("BEST LAW: S (0), E (1), YIELD (2); NONE for others, or without a LAND.");
        MoonDebts x = Check.landOf("moon 5 0;sort a 1 3 1 1 1 0;");
        int[][] due = {{Integer.MIN_VALUE, -1}, {-1, -1}, {3, -1}, {4, -1}, {Integer.MAX_VALUE, -1}, {0, 0}, {1, 1}, {2, 5}, {3, -1}, {-1, -1}};
        for (int[] row : due) {
            CHECK.same("best(" + row[0] + ")", x.best(row[0]), row[1]);
            CHECK.same("best(" + row[0] + ") without a LAND", new MoonDebts().best(row[0]), -1);
        }
        // Another LAND has another BEST LAW.
        Check.text(x, "moon 6 0;sort a 1 3 1 1 2 0;");
        x.land();
        CHECK.same("best(2) of another LAND", x.best(2), 12);
    }

    private static void gainsAsked() {
        CHECK.about("What a SORT takes over a MOON, less what it would, if nothing were struck; -999999 if there is none such.");
        MoonDebts x = Check.landOf("moon 5 0;sort a 2 5 5 2 5 0;sort b 2 0 5 1 1 0;");
        CHECK.same("gains(0)", x.gains(0), -10);
        CHECK.same("gains(1)", x.gains(1), 10);
        // With the least S a MOST of 0 is below the LEAST PRICE on the last night.
        MoonDebts least = Check.landOf("moon 5 15;strike 1 1;sort a 2 5 5 2 0 0;");
        CHECK.same("gains(0) of S 1", least.gains(0), -10);
        // a goes ahead of b, of like ones the least SORT, if nothing is struck and if it is.
        MoonDebts like = Check.landOf("moon 5 0;strike 1 1;sort a 1 5 5 1 1 0;sort b 1 0 5 2 1 0;");
        CHECK.same("gains(0) of like ones", like.gains(0), 0);
        CHECK.same("gains(1) of like ones", like.gains(1), 0);
        for (int sort : new int[] {Integer.MIN_VALUE, -2, -1, 2, 3, 5, 6, Integer.MAX_VALUE}) {
            CHECK.same("gains(" + sort + ")", x.gains(sort), -999999);
            CHECK.same("gains(" + sort + ") without a LAND", new MoonDebts().gains(sort), -999999);
        }
        MoonDebts six = Check.landOf("moon 5 0;strike 0 1;" + Check.sorts(6));
        CHECK.same("gains(5)", six.gains(5), 0);
        CHECK.same("gains(6)", six.gains(6), -999999);
    }
}
