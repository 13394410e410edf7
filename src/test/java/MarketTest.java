/** Promises 13 to 17, 30 and 31: lots, LOANS, nights, the market, images. */
final class MarketTest {
    private static final String LAND = "moon 10 0;strike 8 1;sort a 2 50 0 5 0 0;sort b 3 0 20 4 10 0;sort c 1 5 40 12 20 8;"
        + "spare sale;";
    private static final Check CHECK = new Check();

    public static void main(String[] args) {
        seeds();
        loansAreMade();
        loansAreRefused();
        fortyLoans();
        nightsGoBy();
        paidAsFarAsItGoes();
        struckAtFullMoons();
        lotsDecide();
        cloudsHide();
        marketIsAsked();
        images();
        CHECK.finish();
    }

    private static void seeds() {
        MoonDebts x = Check.landOf(LAND);
        CHECK.yes("seed(0)", x.seed(0));
        CHECK.yes("seed(1000000)", x.seed(1000000));
        CHECK.no("seed(1000001)", x.seed(1000001));
        CHECK.no("seed(-1)", x.seed(-1));
    }

    private static void loan(MoonDebts x, int loan, int... due) {
        for (int what = 0; what < due.length; what++) {
            CHECK.same("loan(" + loan + ", " + what + ")", x.loan(loan, what), due[what]);
        }
    }

    private static void loansAreMade() {
        MoonDebts x = Check.landOf(LAND);
        CHECK.same("lend(1, 0, 60, 10)", x.lend(1, 0, 60, 10), 0);
        CHECK.same("lend(2, 4, 33, 99)", x.lend(2, 4, 33, 99), 1);
        CHECK.same("lend(20, 3, 5, 400)", x.lend(20, 3, 5, 400), 2);
        loan(x, 0, 0, 1, 0, 60, 66, 4);
        loan(x, 1, 0, 2, 4, 33, 33 + 32, 12);
        loan(x, 2, 2, 0, 3, 5, 25, 5);
        CHECK.same("heap of a", x.market(10), 7);
        CHECK.same("heap of b", x.market(11), 0);
        CHECK.same("heap of c", x.market(12), 0);
        CHECK.same("loan(0, 6)", x.loan(0, 6), -1);
        CHECK.same("loan(0, -1)", x.loan(0, -1), -1);
        CHECK.same("loan(3, 0)", x.loan(3, 0), -1);
        CHECK.same("loan(-1, 0)", x.loan(-1, 0), -1);
        CHECK.same("loan(40, 0)", x.loan(40, 0), -1);
        CHECK.same("go(4)", x.go(4), 4);
        CHECK.same("a LOAN that was paid", x.loan(0, 0), -1);
        CHECK.same("the least free number is taken anew", x.lend(1, 1, 1, 0), 0);
        loan(x, 0, 0, 1, 1, 1, 1, 8);
        CHECK.same("LOANS of 1 count", x.market(1), 3);
        CHECK.same("and what is owed of them", x.market(2), 65 + 25 + 1);
        x.go(4);
        CHECK.same("and they are paid", x.loan(0, 0), -1);
    }

    private static void loansAreRefused() {
        MoonDebts x = Check.landOf(LAND);
        int[][] bad = {{0, 0, 1, 0}, {11, 0, 1, 0}, {3, 0, 1, 0}, {31, 0, 1, 0}, {-1, 0, 1, 0}, {101, 0, 1, 0}, {1, -1, 1, 0},
            {1, 5, 1, 0}, {1, 0, 0, 0}, {1, 0, -1, 0}, {1, 0, 101, 0}, {1, 0, 10000, 0}, {1, 0, 1, -1}, {1, 0, 1, 401},
            {10, 0, 1, 0}, {Integer.MAX_VALUE, 0, 1, 0}, {Integer.MIN_VALUE, 0, 1, 0}, {1, 0, Integer.MIN_VALUE, 0}};
        for (int[] b : bad) {
            CHECK.same("lend(" + b[0] + ", " + b[1] + ", " + b[2] + ", " + b[3] + ")", x.lend(b[0], b[1], b[2], b[3]), -1);
        }
        CHECK.same("nothing is owed", x.market(1), 0);
        CHECK.same("heap of a", x.market(10), 100);
        CHECK.same("all that is there can be lent", x.lend(1, 0, 100, 0), 0);
    }

    private static void fortyLoans() {
        MoonDebts x = Check.landOf(LAND);
        for (int i = 0; i < 40; i++) {
            CHECK.same("loan " + i, x.lend(i % 2 == 0 ? 1 : 2, 0, 2, 50), i);
        }
        CHECK.same("a 41st LOAN", x.lend(1, 0, 1, 0), -1);
        CHECK.same("heap of a", x.market(10), 20);
        CHECK.same("how many", x.market(1), 40);
        CHECK.same("all that is owed", x.market(2), 120);
        x.go(4);
        CHECK.same("how many are left", x.market(1), 20);
        for (int i = 0; i < 20; i++) {
            CHECK.same("number taken anew", x.lend(1, 0, 1, 0), 2 * i);
        }
        CHECK.same("40 are once more", x.lend(1, 0, 1, 0), -1);
    }

    private static void nightsGoBy() {
        MoonDebts x = Check.landOf(LAND);
        CHECK.same("go(0)", x.go(0), -1);
        CHECK.same("go(201)", x.go(201), -1);
        CHECK.same("go(-1)", x.go(-1), -1);
        CHECK.same("NIGHT", x.market(0), 0);
        CHECK.same("go(200)", x.go(200), 200);
        CHECK.same("go(1)", x.go(1), 201);
        CHECK.same("NIGHT", x.market(0), 201);
        x.lend(1, 0, 60, 10);
        CHECK.same("due", x.loan(0, 5), 205);
        x.go(3);
        CHECK.same("in work till due", x.market(11), 0);
        x.go(1);
        CHECK.same("heap of a", x.market(10), 106);
        CHECK.same("heap of b", x.market(11), 24);
    }

    private static void paidAsFarAsItGoes() {
        // b makes 5 of 10 and 10, and owes 50; a wants nothing, so it makes nothing of 12.
        MoonDebts x = Check.landOf(LAND + "sort d 1 12 0 1 50 0;");
        x.lend(1, 0, 10, 400);
        x.lend(31, 0, 4, 0);
        x.lend(30, 2, 6, 50);
        x.go(4);
        CHECK.same("b paid all it had, loan 0 first", x.market(10), 105);
        CHECK.same("then it had 6 of 4 and paid 4", x.market(11), 2);
        CHECK.same("d has 2 and 4", x.market(13), 6);
        CHECK.same("what isn't paid is not LOST", x.market(3), 0);
        x.go(1);
        CHECK.same("a pays 9 of 6 and its own", x.market(10), 105 + 6 - 9);
        CHECK.same("d", x.market(13), 15);
        CHECK.same("all are gone", x.market(1), 0);
    }

    private static void struckAtFullMoons() {
        // WORD 0: each lot strikes. Nights 10 and 20 are full; 16 is due ahead of 20.
        MoonDebts x = Check.landOf("moon 10 0;strike 5 2;sort a 1 99 0 5 0 0;sort b 1 99 0 40 0 0;spare sale;spare gift;");
        x.lend(1, 0, 33, 0);
        x.lend(1, 2, 33, 0);
        x.lend(1, 3, 33, 0);
        x.lend(10, 1, 50, 100);
        x.go(19);
        CHECK.same("not at the first MOON", x.market(3), 0);
        CHECK.same("a paid at 5", x.market(1), 3);
        x.go(1);
        CHECK.same("33 less 10 of 5 sixteenths", x.loan(0, 4), 23);
        CHECK.same("how much it was stays", x.loan(0, 3), 33);
        CHECK.same("a sale is spared", x.loan(1, 4), 33);
        CHECK.same("a gift is spared", x.loan(2, 4), 33);
        CHECK.same("LOST by a", x.market(20), 10);
        CHECK.same("LOST by b", x.market(21), 0);
        CHECK.same("LOST by all", x.market(3), 10);
        CHECK.same("owed", x.market(2), 89);
        x.lend(10, 0, 10, 0);
        x.go(20);
        // At night 40 b's LOANS are due, and paid ahead of what is struck.
        CHECK.same("paid ahead", x.market(20), 10);
        CHECK.same("all are gone", x.market(1), 0);
        MoonDebts y = Check.landOf("moon 5 0;sort a 1 9 0 9 0 0;sort b 1 0 3 7 2 0;");
        y.lend(1, 0, 9, 0);
        y.go(5);
        CHECK.same("struck whole", y.loan(0, 4), 0);
        CHECK.same("it is a LOAN still", y.market(1), 1);
        CHECK.same("LOST", y.market(3), 9);
        y.go(2);
        CHECK.same("b keeps all that its work brings", y.market(11), 15);
        CHECK.same("a has nothing", y.market(10), 0);
    }

    private static void lotsDecide() {
        for (int seed = 0; seed <= 1000000; seed += 33333) {
            MoonDebts x = Check.landOf("moon 5 0;strike 4 1;sort a 1 99 0 5 0 0;sort b 1 0 9 60 9 7;sort c 1 0 9 60 9 12;");
            x.seed(seed);
            for (int i = 0; i < 10; i++) {
                x.lend(1 + i % 2, i % 5, 8, 0);
            }
            x.go(5);
            Lots lots = new Lots(seed);
            lots.below16();
            for (int i = 0; i < 10; i++) {
                int due = lots.below16() < (i % 2 == 0 ? 7 : 12) ? 8 : 6;
                CHECK.same("owed of " + i + " with seed " + seed, x.loan(i, 4), due);
            }
        }
    }

    private static void cloudsHide() {
        // The first lot of a MOON is drawn without LOANS and without CLOUDS too; spared LOANS draw none.
        MoonDebts x = Check.landOf("moon 5 6;strike 4 1;sort a 1 99 0 5 0 0;sort b 1 0 9 60 9 8;spare gift;");
        x.seed(4242);
        Lots lots = new Lots(4242);
        x.go(200);
        for (int i = 0; i < 40; i++) {
            lots.below16();
        }
        x.lend(1, 3, 32, 0);
        x.lend(1, 0, 64, 0);
        int owed = 64;
        for (int i = 0; i < 11; i++) {
            x.go(5);
            if (lots.below16() >= 6 && lots.below16() >= 8) {
                owed -= owed * 4 / 16;
            }
            CHECK.same("owed behind MOON " + i, x.loan(1, 4), owed);
        }
        CHECK.same("LOST", x.market(20), 64 - owed);
        CHECK.same("something was struck, but not each time", owed < 64 && owed > 6 ? 1 : 0, 1);
    }

    private static void marketIsAsked() {
        MoonDebts x = Check.landOf(LAND);
        int[] none = {-1, 4, 9, 13, 16, 19, 23, 26, 30, Integer.MAX_VALUE, Integer.MIN_VALUE};
        for (int what : none) {
            CHECK.same("market(" + what + ")", x.market(what), -1);
        }
        CHECK.same("market(12)", x.market(12), 5);
        CHECK.same("market(22)", x.market(22), 0);
        CHECK.same("market(2)", x.market(2), 0);
    }

    private static void images() {
        MoonDebts x = Check.landOf("moon 5 0;strike 8 1;sort a 1 99 0 5 0 0;sort b 1 0 9 60 9 8;");
        CHECK.no("on(0) without an IMAGE", x.on(0));
        CHECK.no("image(-1)", x.image(-1));
        CHECK.no("image(3)", x.image(3));
        CHECK.no("on(-1)", x.on(-1));
        CHECK.no("on(3)", x.on(3));
        x.seed(9);
        x.lend(1, 0, 40, 0);
        x.go(7);
        CHECK.yes("image(2)", x.image(2));
        int owed = x.loan(0, 4);
        int lost = x.market(3);
        x.entry(0, 1, 1000);
        int[] first = goAndLook(x);
        CHECK.yes("image(0)", x.image(0));
        CHECK.yes("on(2)", x.on(2));
        CHECK.same("NIGHT", x.market(0), 7);
        CHECK.same("owed", x.loan(0, 4), owed);
        CHECK.same("LOST", x.market(3), lost);
        CHECK.same("heap", x.market(10), 59);
        CHECK.same("LOANS", x.market(1), 1);
        CHECK.same("the BOOK is no part of it", x.count(7), 1);
        int[] second = goAndLook(x);
        CHECK.yes("on(2) once more", x.on(2));
        int[] third = goAndLook(x);
        for (int i = 0; i < first.length; i++) {
            CHECK.same("the same lots " + i, second[i], first[i]);
            CHECK.same("the same lots once more " + i, third[i], first[i]);
        }
        CHECK.yes("image(2) anew", x.image(2));
        x.go(1);
        CHECK.yes("on(2) anew", x.on(2));
        CHECK.same("NIGHT anew", x.market(0), 27);
        CHECK.yes("on(0)", x.on(0));
        CHECK.same("NIGHT of the other", x.market(0), 27);
    }

    private static int[] goAndLook(MoonDebts x) {
        x.lend(1, 1, 50, 10);
        x.go(20);
        return new int[] {x.market(0), x.market(1), x.market(2), x.market(3), x.market(10), x.loan(0, 4), x.loan(1, 4)};
    }
}
