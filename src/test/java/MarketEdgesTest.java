/** Part 3 of Terms (the MARKET), images, and promises 13 to 17, 30 and 31 at their edges: a method for each sentence that names one. */
final class MarketEdgesTest {
    private static final String RICH = "moon 30 0;strike 0 1;sort a 50 99 1 1 99 0;sort b 50 99 1 1 99 0;";
    private static final Check CHECK = new Check();

    public static void main(String[] args) {
        heaps();
        atMost40Loans();
        leastFreeNumber();
        unlikeSorts();
        kinds();
        muchFromHeap();
        muchAtMost9999();
        prices();
        dueInNights();
        inWorkTillDue();
        paidByNumbers();
        gotBeforeItPays();
        wantOfNothing();
        asFarAsItGoes();
        paidAheadOfStriking();
        nightsOfStriking();
        cloudsBelowQ();
        wordsBelowK();
        sparedDrawNoLot();
        hiddenDrawsOneLot();
        sixteenthsCut();
        lostByLenders();
        lowest31Bits();
        seeds();
        goAsked();
        marketAsked();
        loanAsked();
        imagesKeepAll();
        imagesKeepLoans();
        imagesAsked();
        CHECK.finish();
    }

    private static void heaps() {
        CHECK.about("each SORT has a heap of COIN");
        MoonDebts x = Check.landOf("moon 5 0;sort a 1 0 1 1 1 1;sort b 50 99 1 1 1 1;sort c 1 99 1 1 1 1;sort d 50 1 1 1 1 1;"
            + "sort e 50 0 1 1 1 1;sort f 7 8 1 1 1 1;");
        int[] due = {0, 4950, 99, 50, 0, 56};
        for (int sort = 0; sort < 6; sort++) {
            CHECK.same("market(1" + sort + ")", x.market(10 + sort), due[sort]);
        }
    }

    private static void atMost40Loans() {
        CHECK.about("At most 40 LOANS that are owed");
        MoonDebts x = Check.landOf("moon 30 0;sort a 1 99 0 9 0 0;sort b 1 99 0 9 0 0;");
        for (int i = 0; i < 40; i++) {
            CHECK.same("market(1)", x.market(1), i);
            CHECK.same("lend " + i, x.lend(i % 2 == 0 ? 1 : 10, i % 5, 1, 0), i);
        }
        CHECK.same("market(1)", x.market(1), 40);
        CHECK.same("a 41st", x.lend(1, 0, 1, 0), -1);
        CHECK.same("a 41st the other way", x.lend(10, 4, 1, 0), -1);
        CHECK.same("market(1)", x.market(1), 40);
        CHECK.same("market(2)", x.market(2), 40);
        CHECK.same("heap", x.market(10), 79);
        CHECK.same("the last", x.loan(39, 0), 1);
        CHECK.same("none behind it", x.loan(40, 0), -1);
        x.go(8);
        CHECK.same("a 41st on the night ahead", x.lend(1, 0, 1, 0), -1);
        x.go(1);
        CHECK.same("all are gone", x.market(1), 0);
        CHECK.same("and may be made anew", x.lend(1, 0, 1, 0), 0);
    }

    private static void leastFreeNumber() {
        CHECK.about("numbers are taken anew when they are free: the least");
        // b's are due in 2 nights, c's in 3, d's in 50.
        MoonDebts x = Check.landOf("moon 30 0;strike 0 1;sort a 1 99 0 9 0 0;sort b 1 0 0 2 0 0;sort c 1 0 0 3 0 0;sort d 1 0 0 50 0 0;");
        int[] who = {3, 2, 3, 1, 3, 2};
        for (int i = 0; i < who.length; i++) {
            CHECK.same("lend", x.lend(who[i], 0, 1, 0), i);
        }
        x.go(2);
        CHECK.same("number 3 is free", x.loan(3, 0), -1);
        CHECK.same("number 4 is not", x.loan(4, 1), 3);
        CHECK.same("the one that is free", x.lend(3, 1, 1, 0), 3);
        CHECK.same("then the next", x.lend(3, 1, 1, 0), 6);
        x.go(1);
        CHECK.same("the least of 1 and 5", x.lend(3, 2, 1, 0), 1);
        CHECK.same("then the other", x.lend(3, 2, 1, 0), 5);
        CHECK.same("then the next", x.lend(3, 2, 1, 0), 7);
        CHECK.same("KIND of number 1", x.loan(1, 2), 2);
        CHECK.same("when number 1 is due", x.loan(1, 5), 53);
    }

    private static void unlikeSorts() {
        CHECK.about("lender, borrower (unlike SORTS) / who is lender * 10 and borrower .. NONE if there are none such");
        for (int many : new int[] {1, 2, 6}) {
            for (int who = -12; who <= 112; who++) {
                MoonDebts x = Check.landOf("moon 5 0;" + Check.sorts(many));
                boolean can = who >= 0 && who / 10 < many && who % 10 < many && who / 10 != who % 10;
                CHECK.same("lend(" + who + ", 0, 1, 0) of " + many, x.lend(who, 0, 1, 0), can ? 0 : -1);
                CHECK.same("lender of " + who, x.loan(0, 0), can ? who / 10 : -1);
                CHECK.same("borrower of " + who, x.loan(0, 1), can ? who % 10 : -1);
            }
        }
        MoonDebts x = Check.landOf("moon 5 0;" + Check.sorts(6));
        CHECK.same("lend(MIN, 0, 1, 0)", x.lend(Integer.MIN_VALUE, 0, 1, 0), -1);
        CHECK.same("lend(MAX, 0, 1, 0)", x.lend(Integer.MAX_VALUE, 0, 1, 0), -1);
    }

    private static void kinds() {
        CHECK.about("KINDS .. 0 .. 4");
        for (int kind : new int[] {Integer.MIN_VALUE, -1, 0, 1, 2, 3, 4, 5, 6, Integer.MAX_VALUE}) {
            MoonDebts x = Check.landOf("moon 5 0;" + Check.sorts(2));
            boolean can = kind >= 0 && kind <= 4;
            CHECK.same("lend(1, " + kind + ", 1, 0)", x.lend(1, kind, 1, 0), can ? 0 : -1);
            CHECK.same("its KIND", x.loan(0, 2), can ? kind : -1);
        }
    }

    private static void muchFromHeap() {
        CHECK.about("A LOAN is made: the lender's heap has so much (1 .. 9999)");
        int[][] due = {{Integer.MIN_VALUE, -1}, {-1, -1}, {0, -1}, {1, 0}, {2, 0}, {69, 0}, {70, 0}, {71, -1}, {9999, -1}, {Integer.MAX_VALUE, -1}};
        for (int[] row : due) {
            MoonDebts x = Check.landOf("moon 5 0;sort a 7 10 1 1 1 1;sort b 1 0 1 1 1 1;");
            CHECK.same("lend(1, 0, " + row[0] + ", 0)", x.lend(1, 0, row[0], 0), row[1]);
            CHECK.same("heap of a behind " + row[0], x.market(10), row[1] == 0 ? 70 - row[0] : 70);
            CHECK.same("how much of " + row[0], x.loan(0, 3), row[1] == 0 ? row[0] : -1);
            CHECK.same("b's empty heap behind " + row[0], x.lend(10, 0, 1, 0), -1);
        }
    }

    private static void muchAtMost9999() {
        CHECK.about("the lender's heap has so much (1 .. 9999)");
        MoonDebts x = Check.landOf(RICH);
        CHECK.same("all the heap", x.lend(1, 0, 4950, 0), 0);
        CHECK.same("one night", x.go(1), 1);
        CHECK.same("heap of b: 4950 and 99 times 4950", x.market(11), 495000);
        CHECK.same("9999", x.lend(10, 0, 9999, 400), 0);
        CHECK.same("owed", x.loan(0, 4), 49995);
        CHECK.same("10000", x.lend(10, 0, 10000, 0), -1);
        CHECK.same("99999", x.lend(10, 0, 99999, 0), -1);
        CHECK.same("heap of b", x.market(11), 485001);
    }

    private static void prices() {
        CHECK.about("price 0 .. 400: owed is much and much times price by 100 (cut)");
        int[][] due = {{1, -1, -1}, {1, 0, 1}, {1, 1, 1}, {1, 99, 1}, {1, 100, 2}, {1, 199, 2}, {1, 200, 3}, {1, 399, 4}, {1, 400, 5},
            {1, 401, -1}, {33, 0, 33}, {33, 3, 33}, {33, 4, 34}, {33, 99, 65}, {33, 400, 165}, {1, Integer.MIN_VALUE, -1},
            {1, Integer.MAX_VALUE, -1}, {4950, 400, 24750}, {4950, 399, 24700}};
        for (int[] row : due) {
            MoonDebts x = Check.landOf(RICH);
            CHECK.same("lend(1, 0, " + row[0] + ", " + row[1] + ")", x.lend(1, 0, row[0], row[1]), row[2] < 0 ? -1 : 0);
            CHECK.same("owed", x.loan(0, 4), row[2]);
            CHECK.same("all that is owed", x.market(2), Math.max(0, row[2]));
        }
    }

    private static void dueInNights() {
        CHECK.about("due in the borrower's Y nights");
        for (int work : new int[] {1, 2, 59, 60}) {
            MoonDebts x = Check.landOf("moon 30 0;strike 0 1;sort a 1 99 0 7 0 0;sort b 1 0 0 " + work + " 0 0;");
            for (int begun = 0; begun <= 60; begun += 30) {
                CHECK.same("lend", x.lend(1, 0, 5, 0), 0);
                CHECK.same("when it is due", x.loan(0, 5), x.market(0) + work);
                if (work > 1) {
                    x.go(work - 1);
                }
                CHECK.same("the night ahead", x.market(1), 1);
                x.go(1);
                CHECK.same("that night", x.market(1), 0);
                CHECK.same("paid", x.market(10), 99);
            }
        }
    }

    private static void inWorkTillDue() {
        CHECK.about("(What the borrower took is in work till due.)");
        MoonDebts x = Check.landOf("moon 30 0;sort a 1 50 0 7 0 0;sort b 1 3 10 4 5 0;");
        x.lend(1, 0, 20, 50);
        CHECK.same("a's heap is less", x.market(10), 30);
        CHECK.same("b's heap is not more", x.market(11), 3);
        CHECK.same("b can't lend it on", x.lend(10, 0, 4, 0), -1);
        x.go(3);
        CHECK.same("b's heap the night ahead", x.market(11), 3);
        x.go(1);
        CHECK.same("b has got 10 and 20, and paid 30", x.market(11), 3);
        CHECK.same("a", x.market(10), 60);
    }

    private static void paidByNumbers() {
        CHECK.about("first each LOAN (by numbers) that is due is paid");
        // b gets 10 of each, and has 10 for the 20 of a first, then 10 for the 20 of c.
        MoonDebts x = Check.landOf("moon 30 0;sort a 1 10 0 7 0 0;sort b 1 0 0 4 0 0;sort c 1 10 0 9 0 0;sort d 1 5 0 4 0 0;");
        x.lend(1, 0, 10, 100);
        x.lend(21, 0, 10, 100);
        x.go(4);
        CHECK.same("a", x.market(10), 10);
        CHECK.same("c", x.market(12), 10);
        CHECK.same("b", x.market(11), 0);
        // Number 0 is paid to b, who then has 5 more for number 1.
        MoonDebts y = Check.landOf("moon 30 0;sort a 1 5 0 4 0 0;sort b 1 5 0 4 0 0;sort c 1 10 0 9 0 0;");
        y.lend(10, 0, 5, 0);
        y.lend(21, 0, 10, 50);
        y.go(4);
        CHECK.same("b paid 15 of 10 and 5", y.market(12), 15);
        // The other way about b has 10 alone, and 5 behind it.
        MoonDebts z = Check.landOf("moon 30 0;sort a 1 5 0 4 0 0;sort b 1 5 0 4 0 0;sort c 1 10 0 9 0 0;");
        z.lend(21, 0, 10, 50);
        z.lend(10, 0, 5, 0);
        z.go(4);
        CHECK.same("b paid 10 of 15", z.market(12), 10);
        CHECK.same("b got 5 behind it", z.market(11), 5);
    }

    private static void gotBeforeItPays() {
        CHECK.about("the borrower's heap, having got much times G by W (cut; ..) and much, pays what is owed");
        int[][] due = {{1, 0}, {2, 1}, {3, 2}, {4, 2}, {5, 3}, {6, 4}};
        for (int[] row : due) {
            MoonDebts x = Check.landOf("moon 30 0;sort a 1 10 0 7 0 0;sort b 1 0 3 1 2 0;");
            x.lend(1, 0, row[0], 0);
            x.go(1);
            CHECK.same("what " + row[0] + " brings", x.market(11), row[1]);
            CHECK.same("a has all back", x.market(10), 10);
        }
    }

    private static void wantOfNothing() {
        CHECK.about("0 if W is 0");
        MoonDebts x = Check.landOf("moon 30 0;sort a 1 10 0 7 0 0;sort b 1 2 0 1 99 0;");
        x.lend(1, 0, 10, 10);
        x.go(1);
        CHECK.same("a", x.market(10), 11);
        CHECK.same("b", x.market(11), 1);
    }

    private static void asFarAsItGoes() {
        CHECK.about("pays what is owed, as far as it goes; the LOAN is gone");
        // b has got 10 and its own COIN, and owes 15.
        int[][] due = {{0, 10, 0}, {4, 14, 0}, {5, 15, 0}, {6, 15, 1}};
        for (int[] row : due) {
            MoonDebts x = Check.landOf("moon 30 0;sort a 1 10 0 7 0 0;sort b 1 " + row[0] + " 0 1 0 0;");
            x.lend(1, 0, 10, 50);
            x.go(1);
            CHECK.same("a where b had " + row[0], x.market(10), row[1]);
            CHECK.same("b where b had " + row[0], x.market(11), row[2]);
            CHECK.same("the LOAN is gone", x.market(1), 0);
            CHECK.same("nothing is owed", x.market(2), 0);
            CHECK.same("it can't be asked for", x.loan(0, 4), -1);
            CHECK.same("what isn't paid is not LOST", x.market(3), 0);
        }
    }

    private static void paidAheadOfStriking() {
        CHECK.about("first each LOAN (by numbers) that is due is paid .. Then, at a FULL MOON at which is struck");
        // b's WORK ends on the MOON, c's one night behind it.
        MoonDebts x = Check.landOf("moon 5 0;sort a 1 99 0 7 0 0;sort b 1 0 0 5 0 0;sort c 1 0 0 6 0 0;");
        x.lend(1, 0, 10, 0);
        x.lend(2, 0, 20, 0);
        x.go(5);
        CHECK.same("b paid all", x.market(10), 79);
        CHECK.same("c owes nothing", x.loan(1, 4), 0);
        CHECK.same("LOST", x.market(3), 20);
        // What is lent on the night of a MOON is not struck that night.
        x.lend(1, 0, 30, 0);
        CHECK.same("owed", x.loan(0, 4), 30);
        x.go(4);
        CHECK.same("owed on the night ahead of the next", x.loan(0, 4), 30);
        x.go(1);
        CHECK.same("paid on the next", x.market(3), 20);
        CHECK.same("c kept its 20", x.market(12), 20);
    }

    private static void nightsOfStriking() {
        CHECK.about("at each one that is a multiple of E in number what is owed is struck (market)");
        int[][] laws = {{5, 1}, {5, 2}, {5, 9}, {7, 3}, {29, 1}, {30, 1}};
        for (int[] law : laws) {
            MoonDebts x = Check.landOf("moon " + law[0] + " 0;strike 1 " + law[1] + ";sort a 50 99 0 9 0 0;sort b 1 0 0 60 0 0;");
            x.lend(1, 0, 4950, 0);
            int owed = 4950;
            CHECK.same("owed on night 0", x.loan(0, 4), owed);
            for (int night = 1; night < 60; night++) {
                x.go(1);
                owed -= night % (law[0] * law[1]) == 0 ? owed / 16 : 0;
                CHECK.same("owed on night " + night + " of P " + law[0] + ", E " + law[1], x.loan(0, 4), owed);
            }
        }
        // The ninth MOON of 30 nights is at night 270.
        MoonDebts x = Check.landOf("moon 30 0;strike 8 9;sort a 1 99 0 9 0 0;sort b 1 0 0 60 0 0;");
        x.go(200);
        x.go(35);
        x.lend(1, 0, 10, 0);
        x.go(34);
        CHECK.same("owed on night 269", x.loan(0, 4), 10);
        x.go(1);
        CHECK.same("owed on night 270", x.loan(0, 4), 5);
    }

    private static void cloudsBelowQ() {
        CHECK.about("a lot below 16: below Q it is hidden");
        for (int lot = 0; lot < 16; lot++) {
            int seed = Lots.seedWith(1, lot);
            for (int clouds = 0; clouds <= 15; clouds++) {
                MoonDebts x = Check.landOf("moon 5 " + clouds + ";sort a 1 9 0 9 0 0;sort b 1 0 0 9 0 0;");
                x.seed(seed);
                x.lend(1, 0, 9, 0);
                x.go(5);
                CHECK.same("owed with lot " + lot + " and CLOUDS " + clouds, x.loan(0, 4), lot < clouds ? 9 : 0);
                CHECK.same("LOST with lot " + lot + " and CLOUDS " + clouds, x.market(20), lot < clouds ? 0 : 9);
            }
        }
    }

    private static void wordsBelowK() {
        CHECK.about("a lot below 16: if it isn't below K of the borrower, what is owed is S sixteenths (cut) less");
        for (int lot = 0; lot < 16; lot++) {
            int seed = Lots.seedWith(2, lot);
            for (int word = 0; word <= 16; word++) {
                // The lender's K must not count: it is 16 where the borrower's is 0, and so on.
                MoonDebts x = Check.landOf("moon 5 0;sort a 1 9 0 9 0 " + (16 - word) + ";sort b 1 0 0 9 0 " + word + ";");
                x.seed(seed);
                x.lend(1, 0, 9, 0);
                x.go(5);
                CHECK.same("owed with lot " + lot + " and K " + word, x.loan(0, 4), lot < word ? 9 : 0);
            }
        }
    }

    private static void sparedDrawNoLot() {
        CHECK.about("of each LOAN (by numbers) whose KIND is not spared a lot below 16");
        String[] kinds = {"loan", "pledge", "sale", "gift", "purse"};
        for (int spared = 0; spared < 5; spared++) {
            for (int seed = 0; seed < 400; seed += 37) {
                MoonDebts x = Check.landOf("moon 5 0;spare " + kinds[spared] + ";sort a 1 99 0 9 0 0;sort b 1 0 0 9 0 8;");
                x.seed(seed);
                for (int i = 0; i < 10; i++) {
                    x.lend(1, i % 5, 9, 0);
                }
                x.go(5);
                Lots lots = new Lots(seed);
                lots.below16();
                for (int i = 0; i < 10; i++) {
                    boolean stays = i % 5 == spared || lots.below16() < 8;
                    CHECK.same("owed of " + i + " with " + kinds[spared] + " spared", x.loan(i, 4), stays ? 9 : 0);
                }
            }
        }
    }

    private static void hiddenDrawsOneLot() {
        CHECK.about("below Q it is hidden, else of each LOAN .. a lot");
        for (int seed = 0; seed < 400; seed += 7) {
            MoonDebts x = Check.landOf("moon 5 8;strike 8 2;sort a 1 99 0 9 0 0;sort b 1 0 0 60 0 8;");
            x.seed(seed);
            x.lend(1, 0, 32, 0);
            x.lend(1, 0, 64, 0);
            Lots lots = new Lots(seed);
            int[] owed = {32, 64};
            for (int moon = 0; moon < 5; moon++) {
                x.go(10);
                if (lots.below16() >= 8) {
                    owed[0] -= lots.below16() < 8 ? 0 : owed[0] / 2;
                    owed[1] -= lots.below16() < 8 ? 0 : owed[1] / 2;
                }
                CHECK.same("owed of 0", x.loan(0, 4), owed[0]);
                CHECK.same("owed of 1", x.loan(1, 4), owed[1]);
            }
        }
        // A lot is drawn though nothing is owed, and though S is 0.
        for (int struck = 0; struck <= 16; struck += 16) {
            MoonDebts x = Check.landOf("moon 5 0;strike " + struck + " 1;sort a 1 9 0 9 0 0;sort b 1 0 0 9 0 8;");
            x.seed(Lots.seedWith(3, 8));
            x.go(5);
            x.lend(1, 0, 9, 0);
            x.go(5);
            CHECK.same("the third lot is 8, S " + struck, x.loan(0, 4), struck == 0 ? 9 : 0);
        }
    }

    private static void sixteenthsCut() {
        CHECK.about("what is owed is S sixteenths (cut) less");
        int[][] due = {{0, 99, 99}, {1, 15, 15}, {1, 16, 15}, {1, 31, 30}, {1, 32, 30}, {15, 1, 1}, {15, 2, 1}, {15, 16, 1}, {15, 99, 7},
            {16, 1, 0}, {16, 99, 0}, {8, 99, 50}, {8, 1, 1}, {5, 99, 69}};
        for (int[] row : due) {
            MoonDebts x = Check.landOf("moon 5 0;strike " + row[0] + " 1;sort a 1 99 0 9 0 0;sort b 1 0 0 9 0 0;");
            x.lend(1, 0, row[1], 0);
            x.go(5);
            CHECK.same("owed of " + row[1] + " with S " + row[0], x.loan(0, 4), row[2]);
            CHECK.same("LOST of " + row[1] + " with S " + row[0], x.market(20), row[1] - row[2]);
            CHECK.same("how much it was", x.loan(0, 3), row[1]);
            CHECK.same("it is a LOAN", x.market(1), 1);
            CHECK.same("all that is owed", x.market(2), row[2]);
        }
    }

    private static void lostByLenders() {
        CHECK.about("and the lender has LOST so much");
        MoonDebts x = Check.landOf("moon 5 0;strike 8 1;sort a 1 50 0 60 0 0;sort b 1 0 0 60 0 0;sort c 1 50 0 60 0 0;sort d 1 0 0 60 0 0;"
            + "sort e 1 0 0 60 0 0;sort f 1 80 0 60 0 0;");
        x.lend(1, 0, 10, 100);
        x.lend(20, 1, 30, 0);
        x.lend(54, 2, 80, 0);
        x.lend(5, 3, 7, 0);
        int[] first = {10 + 3, 0, 15, 0, 0, 40};
        int[] second = {13 + 5 + 2, 0, 15 + 7, 0, 0, 60};
        x.go(5);
        for (int sort = 0; sort < 6; sort++) {
            CHECK.same("market(2" + sort + ")", x.market(20 + sort), first[sort]);
        }
        CHECK.same("market(3)", x.market(3), 68);
        x.go(5);
        for (int sort = 0; sort < 6; sort++) {
            CHECK.same("market(2" + sort + ")", x.market(20 + sort), second[sort]);
        }
        CHECK.same("market(3)", x.market(3), 102);
        CHECK.same("heaps have no part in it", x.market(10), 50 - 17);
        x.go(50);
        CHECK.same("LOST stays when all are paid", x.market(1), 0);
        CHECK.yes("and is no less", x.market(3) > 102);
    }

    private static void lowest31Bits() {
        CHECK.about("each time x becomes the lowest 31 bits of x * 1103515245 + 12345; a lot below n is x by 256 (cut), rest by n");
        int[] seeds = {0, 1, 2, 3, 255, 256, 4095, 4096, 65535, 131071, 500000, 999998, 999999, 1000000};
        for (int seed : seeds) {
            MoonDebts x = Check.landOf("moon 5 4;strike 8 1;sort a 7 99 0 9 0 0;sort b 1 0 0 60 0 8;");
            x.seed(seed);
            int[] owed = new int[40];
            for (int i = 0; i < 40; i++) {
                owed[i] = 17;
                x.lend(1, 0, 17, 0);
            }
            Lots lots = new Lots(seed);
            for (int moon = 0; moon < 6; moon++) {
                x.go(5);
                boolean hidden = lots.below16() < 4;
                for (int i = 0; i < 40; i++) {
                    owed[i] -= hidden || lots.below16() < 8 ? 0 : owed[i] / 2;
                    CHECK.same("owed of " + i + " at MOON " + moon + " with seed " + seed, x.loan(i, 4), owed[i]);
                }
            }
        }
    }

    private static void seeds() {
        CHECK.about("x of the lots is so: true; false if it can't be. (0 .. 1000000, 0 at first)");
        int[][] due = {{Integer.MIN_VALUE, 0}, {-1, 0}, {0, 1}, {1, 1}, {999999, 1}, {1000000, 1}, {1000001, 0}, {Integer.MAX_VALUE, 0}};
        for (int[] row : due) {
            MoonDebts x = Check.landOf("moon 5 0;sort a 1 9 0 9 0 0;sort b 1 0 0 9 0 8;");
            CHECK.same("seed(" + row[0] + ")", x.seed(row[0]) ? 1 : 0, row[1]);
            x.lend(1, 0, 9, 0);
            x.go(5);
            Lots lots = new Lots(row[1] == 1 ? row[0] : 0);
            lots.below16();
            CHECK.same("owed", x.loan(0, 4), lots.below16() < 8 ? 9 : 0);
        }
        // A seed that is refused leaves the one ahead.
        for (int bad : new int[] {-1, 1000001}) {
            for (int lot = 7; lot <= 8; lot++) {
                MoonDebts x = Check.landOf("moon 5 0;sort a 1 9 0 9 0 0;sort b 1 0 0 9 0 8;");
                x.seed(Lots.seedWith(2, lot));
                CHECK.no("seed(" + bad + ")", x.seed(bad));
                x.lend(1, 0, 9, 0);
                x.go(5);
                CHECK.same("owed with lot " + lot, x.loan(0, 4), lot == 7 ? 9 : 0);
            }
        }
        // Without a LAND x can be told, too; the LAND begins its lots from 0 on.
        MoonDebts x = new MoonDebts();
        CHECK.yes("seed(0) without a LAND", x.seed(0));
        CHECK.yes("seed(1000000) without a LAND", x.seed(1000000));
        CHECK.no("seed(-1) without a LAND", x.seed(-1));
        CHECK.no("seed(1000001) without a LAND", x.seed(1000001));
    }

    private static void goAsked() {
        CHECK.about("n nights (1 .. 200) go by: the NIGHT; NONE without a LAND, or if they can't be.");
        MoonDebts x = Check.landOf("moon 5 0;" + Check.sorts(2));
        int[][] due = {{Integer.MIN_VALUE, -1}, {-1, -1}, {0, -1}, {1, 1}, {2, 3}, {199, 202}, {200, 402}, {201, -1}, {Integer.MAX_VALUE, -1},
            {1, 403}};
        int night = 0;
        for (int[] row : due) {
            CHECK.same("go(" + row[0] + ")", x.go(row[0]), row[1]);
            night = Math.max(night, row[1]);
            CHECK.same("NIGHT behind go(" + row[0] + ")", x.market(0), night);
            CHECK.same("go(" + row[0] + ") without a LAND", new MoonDebts().go(row[0]), -1);
        }
        // Each of n nights is one: what is due and what is struck between comes in its turn.
        MoonDebts at = Check.landOf("moon 7 0;strike 4 2;sort a 1 99 0 9 0 3;sort b 1 9 7 20 5 7;sort c 1 9 7 33 5 0;");
        MoonDebts by = Check.landOf("moon 7 0;strike 4 2;sort a 1 99 0 9 0 3;sort b 1 9 7 20 5 7;sort c 1 9 7 33 5 0;");
        for (int i = 0; i < 12; i++) {
            at.lend(1 + i % 2, i % 5, 8, i * 30);
            by.lend(1 + i % 2, i % 5, 8, i * 30);
        }
        at.go(200);
        for (int i = 0; i < 200; i++) {
            by.go(1);
        }
        for (int what = 0; what <= 23; what++) {
            CHECK.same("market(" + what + ") behind 200 nights", at.market(what), by.market(what));
        }
    }

    private static void marketAsked() {
        CHECK.about("0 NIGHT, 1 how many LOANS are owed, 2 all that is owed, 3 LOST by all; 10 and a SORT: its heap; 20 and a SORT: LOST by it."
            + " NONE for others, or without a LAND.");
        for (int many : new int[] {1, 2, 6}) {
            MoonDebts x = Check.landOf("moon 5 0;" + Check.sorts(many));
            MoonDebts none = new MoonDebts();
            for (int what = -12; what <= 40; what++) {
                boolean heap = what >= 10 && what < 10 + many;
                boolean zero = what >= 0 && what <= 3 || what >= 20 && what < 20 + many;
                CHECK.same("market(" + what + ") of " + many, x.market(what), heap ? 1 : zero ? 0 : -1);
                CHECK.same("market(" + what + ") without a LAND", none.market(what), -1);
            }
            CHECK.same("market(MIN)", x.market(Integer.MIN_VALUE), -1);
            CHECK.same("market(MAX)", x.market(Integer.MAX_VALUE), -1);
        }
    }

    private static void loanAsked() {
        CHECK.about("Of a LOAN that is owed: 0 lender, 1 borrower, 2 KIND, 3 how much it was, 4 what is owed, 5 when it is due. NONE for others,"
            + " or if there is none such.");
        MoonDebts x = Check.landOf("moon 30 0;strike 8 1;sort a 1 99 0 9 0 0;sort b 1 99 0 40 0 0;");
        x.go(3);
        x.lend(1, 4, 9, 50);
        x.lend(10, 3, 6, 100);
        int[][] due = {{0, 1, 4, 9, 13, 43}, {1, 0, 3, 6, 12, 12}};
        for (int loan = -2; loan <= 45; loan++) {
            for (int what = -1; what <= 6; what++) {
                boolean there = loan >= 0 && loan <= 1 && what >= 0 && what <= 5;
                CHECK.same("loan(" + loan + ", " + what + ")", x.loan(loan, what), there ? due[loan][what] : -1);
            }
        }
        for (int wild : new int[] {Integer.MIN_VALUE, Integer.MAX_VALUE}) {
            CHECK.same("loan(" + wild + ", 0)", x.loan(wild, 0), -1);
            CHECK.same("loan(0, " + wild + ")", x.loan(0, wild), -1);
        }
        x.go(27);
        CHECK.same("how much it was, when it is struck", x.loan(0, 3), 9);
        CHECK.same("what is owed then", x.loan(0, 4), 7);
        CHECK.same("one that was paid", x.loan(1, 0), -1);
        CHECK.same("loan(0, 0) without a LAND", new MoonDebts().loan(0, 0), -1);
    }

    private static void imagesKeepAll() {
        CHECK.about("An IMAGE (0 .. 2) keeps NIGHT, heaps, LOANS, what was LOST and x.");
        MoonDebts x = Check.landOf("moon 5 0;strike 8 1;sort a 7 99 0 9 0 0;sort b 1 0 0 60 0 8;");
        CHECK.yes("image(0)", x.image(0));
        x.seed(Lots.seedWith(43, 9));
        for (int i = 0; i < 40; i++) {
            x.lend(1, i % 5, 16, i);
        }
        x.go(5);
        CHECK.yes("image(1)", x.image(1));
        int lost = x.market(3);
        int[] owed = new int[40];
        for (int i = 0; i < 40; i++) {
            owed[i] = x.loan(i, 4);
        }
        int[] first = behind(x);
        CHECK.yes("image(2)", x.image(2));
        CHECK.yes("on(1)", x.on(1));
        CHECK.same("NIGHT", x.market(0), 5);
        CHECK.same("LOANS", x.market(1), 40);
        CHECK.same("LOST by all", x.market(3), lost);
        CHECK.same("LOST by a", x.market(20), lost);
        CHECK.same("heap of a", x.market(10), 693 - 640);
        CHECK.same("heap of b", x.market(11), 0);
        for (int i = 0; i < 40; i++) {
            CHECK.same("KIND of " + i, x.loan(i, 2), i % 5);
            CHECK.same("owed of " + i, x.loan(i, 4), owed[i]);
        }
        CHECK.same("lender of the last", x.loan(39, 0), 0);
        CHECK.same("borrower of the last", x.loan(39, 1), 1);
        CHECK.same("how much of the last", x.loan(39, 3), 16);
        CHECK.same("when the last is due", x.loan(39, 5), 60);
        int[] second = behind(x);
        for (int i = 0; i < first.length; i++) {
            CHECK.same("the same lots behind it, " + i, second[i], first[i]);
        }
        CHECK.yes("on(0)", x.on(0));
        CHECK.same("NIGHT of 0", x.market(0), 0);
        CHECK.same("LOANS of 0", x.market(1), 0);
        CHECK.same("LOST of 0", x.market(3), 0);
        CHECK.same("heap of 0", x.market(10), 693);
        CHECK.yes("on(2)", x.on(2));
        CHECK.same("NIGHT of 2", x.market(0), 15);
        CHECK.same("owed of 2", x.market(2), first[1]);
    }

    private static void imagesKeepLoans() {
        CHECK.about("An IMAGE (0 .. 2) keeps .. LOANS (all of each)");
        MoonDebts x = Check.landOf("moon 5 0;strike 4 1;sort a 1 99 0 6 0 0;sort b 1 99 0 7 0 0;sort c 1 99 0 8 0 0;");
        int[] who = {1, 12, 20, 10};
        for (int i = 0; i < 4; i++) {
            x.lend(who[i], i, 16 + i, 100 * i);
        }
        CHECK.yes("image(2)", x.image(2));
        int[][] kept = {{0, 1, 0, 16, 16, 7}, {1, 2, 1, 17, 34, 8}, {2, 0, 2, 18, 54, 6}, {1, 0, 3, 19, 76, 6}};
        x.go(8);
        for (int i = 0; i < 5; i++) {
            CHECK.same("another LOAN", x.lend(21, 4, 1, 7), i);
        }
        CHECK.yes("on(2)", x.on(2));
        for (int loan = 0; loan < 5; loan++) {
            for (int what = 0; what < 6; what++) {
                CHECK.same("loan(" + loan + ", " + what + ")", x.loan(loan, what), loan < 4 ? kept[loan][what] : -1);
            }
        }
        int[] heaps = {99 - 16, 99 - 17 - 19, 99 - 18};
        for (int sort = 0; sort < 3; sort++) {
            CHECK.same("market(1" + sort + ")", x.market(10 + sort), heaps[sort]);
            CHECK.same("market(2" + sort + ")", x.market(20 + sort), 0);
        }
        // What comes later is no part of the IMAGE.
        x.go(5);
        CHECK.yes("on(2) once more", x.on(2));
        CHECK.same("NIGHT", x.market(0), 0);
        CHECK.same("owed", x.market(2), 16 + 34 + 54 + 76);
        CHECK.same("LOST", x.market(3), 0);
    }

    /** What comes behind two MOONS. */
    private static int[] behind(MoonDebts x) {
        x.go(10);
        int[] row = {x.market(0), x.market(2), x.market(3), x.loan(0, 4), x.loan(17, 4), x.loan(38, 4), x.loan(39, 4)};
        return row;
    }

    private static void imagesAsked() {
        CHECK.about("An IMAGE comes: true; false without a LAND, or if there is no such number. / An IMAGE is gone on from: true; false if there"
            + " is none.");
        MoonDebts x = Check.landOf("moon 5 0;" + Check.sorts(2));
        MoonDebts none = new MoonDebts();
        for (int k : new int[] {Integer.MIN_VALUE, -2, -1, 0, 1, 2, 3, 4, Integer.MAX_VALUE}) {
            CHECK.no("on(" + k + ") ahead", x.on(k));
            CHECK.same("image(" + k + ")", x.image(k) ? 1 : 0, k >= 0 && k <= 2 ? 1 : 0);
            CHECK.same("on(" + k + ")", x.on(k) ? 1 : 0, k >= 0 && k <= 2 ? 1 : 0);
            CHECK.same("on(" + k + ") once more", x.on(k) ? 1 : 0, k >= 0 && k <= 2 ? 1 : 0);
            CHECK.no("image(" + k + ") without a LAND", none.image(k));
            CHECK.no("on(" + k + ") without a LAND", none.on(k));
        }
        // An IMAGE that comes anew takes the place of the one ahead.
        x.go(3);
        CHECK.yes("image(1)", x.image(1));
        x.go(4);
        CHECK.yes("on(1)", x.on(1));
        CHECK.same("NIGHT of 1", x.market(0), 3);
        CHECK.yes("on(2)", x.on(2));
        CHECK.same("NIGHT of 2", x.market(0), 0);
        // The BOOK and the text are no part of it.
        x.entry(0, 1, 1000);
        x.feed(0, 0, 0, 0, 0);
        CHECK.yes("on(1)", x.on(1));
        CHECK.same("ENTRIES", x.count(7), 1);
        CHECK.same("bytes", x.count(8), 20);
    }
}
