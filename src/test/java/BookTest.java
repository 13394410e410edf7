/** Promises 18 to 20: ENTRIES, an empty BOOK, and how it is judged. */
final class BookTest {
    private static final String LAND = "moon 10 9;strike 8 1;sort a 2 50 0 5 0 0;sort b 3 0 20 4 10 0;sort c 1 5 40 12 20 16;"
        + "spare sale;";
    private static final Check CHECK = new Check();

    public static void main(String[] args) {
        entries();
        refusedEntries();
        twentyEntries();
        judgedFromNightZero();
        struckByThen();
        numbersAreTakenAnew();
        CHECK.finish();
    }

    private static void entries() {
        MoonDebts x = Check.landOf(LAND);
        CHECK.same("clear() of an empty BOOK", x.clear(), 0);
        CHECK.same("judge(-1) of an empty BOOK", x.judge(-1), -1);
        CHECK.same("judge(0) of an empty BOOK", x.judge(0), -1);
        CHECK.same("entry(0, 1, 1000)", x.entry(0, 1, 1000), 1);
        CHECK.same("entry(0, 412, 9999400)", x.entry(0, 412, 9999400), 2);
        CHECK.same("entry(500, 20, 1000)", x.entry(500, 20, 1000), 3);
        CHECK.same("entry(499, 20, 1000)", x.entry(499, 20, 1000), -1);
        CHECK.same("entry(500, 20, 1000)", x.entry(500, 20, 1000), 4);
        CHECK.same("clear()", x.clear(), 4);
        CHECK.same("count(7)", x.count(7), 0);
        CHECK.same("entry(3, 20, 1000) in an empty BOOK", x.entry(3, 20, 1000), 1);
    }

    private static void refusedEntries() {
        MoonDebts x = Check.landOf(LAND);
        int[][] bad = {{-1, 1, 1000}, {501, 1, 1000}, {0, 0, 1000}, {0, 11, 1000}, {0, 3, 1000}, {0, 31, 1000}, {0, 501, 1000},
            {0, -1, 1000}, {0, -99, 1000}, {0, 1, 0}, {0, 1, 999}, {0, 1, 1401}, {0, 1, 10000000}, {0, 1, -1000}, {0, 1, 1999},
            {0, Integer.MAX_VALUE, 1000}, {0, Integer.MIN_VALUE, 1000}, {0, 1, Integer.MAX_VALUE}, {0, 1, Integer.MIN_VALUE}};
        for (int[] b : bad) {
            CHECK.same("entry(" + b[0] + ", " + b[1] + ", " + b[2] + ")", x.entry(b[0], b[1], b[2]), -1);
        }
        CHECK.same("no ENTRIES", x.count(7), 0);
    }

    private static void twentyEntries() {
        MoonDebts x = Check.landOf(LAND);
        for (int i = 1; i <= 20; i++) {
            CHECK.same("entry " + i, x.entry(7, 1, 5000), i);
        }
        CHECK.same("a 21st ENTRY", x.entry(7, 1, 5000), -1);
        CHECK.same("all can be made", x.judge(-1), -1);
        CHECK.same("judge(19)", x.judge(19), 0);
        CHECK.same("judge(20)", x.judge(20), -1);
        CHECK.same("judge(-2)", x.judge(-2), -1);
    }

    private static void judgedFromNightZero() {
        MoonDebts x = Check.landOf(LAND);
        x.lend(1, 0, 100, 0);
        x.go(3);
        x.entry(0, 1, 60010);
        x.entry(3, 1, 41000);
        CHECK.same("a has 40 till b pays", x.judge(-1), 1);
        CHECK.same("the market is as it was", x.market(0), 3);
        CHECK.same("its heaps are, too", x.market(10), 0);
        CHECK.same("its LOANS are, too", x.market(1), 1);
        x.clear();
        x.entry(0, 1, 60010);
        x.entry(4, 1, 106000);
        CHECK.same("what is due that night is paid ahead", x.judge(-1), -1);
        x.entry(4, 1, 1000);
        x.entry(4, 20, 5000);
        CHECK.same("the first that can't be made", x.judge(-1), 2);
    }

    private static void struckByThen() {
        // Neither the CLOUDS nor the WORD of c count; a sale is spared.
        MoonDebts x = Check.landOf(LAND);
        x.entry(0, 2, 41000);
        x.entry(9, 202, 20000);
        x.entry(9, 2, 11100);
        CHECK.same("by night 9", x.judge(0), 0);
        x.entry(10, 2, 7000);
        CHECK.same("by night 10", x.judge(0), 20);
        CHECK.same("a sale", x.judge(1), 0);
        CHECK.same("owed 22, by night 10", x.judge(2), 11);
        CHECK.same("made behind what is struck", x.judge(3), 0);
        x.entry(20, 20, 1000);
        CHECK.same("paid at 12", x.judge(0), 20);
        CHECK.same("twice: 11 and 5", x.judge(2), 16);
        CHECK.same("7 by night 20", x.judge(3), 3);
        x.entry(25, 20, 9999000);
        x.entry(40, 102, 1000);
        CHECK.same("the first that can't be made", x.judge(-1), 5);
        CHECK.same("what wasn't made", x.judge(5), 0);
        CHECK.same("what comes behind it", x.judge(6), 0);
        CHECK.same("as before", x.judge(2), 16);
    }

    private static void numbersAreTakenAnew() {
        // Entry 2 takes number 0 anew, so at night 20 it is paid ahead of entry 1, and b has too little for entry 1.
        MoonDebts x = Check.landOf("moon 30 0;strike 0 1;sort a 1 50 0 5 0 0;sort b 1 0 0 10 0 0;sort c 1 50 0 5 0 0;"
            + "sort d 1 1 0 9 0 0;");
        x.entry(0, 2, 10000);
        x.entry(10, 21, 10100);
        x.entry(10, 1, 10100);
        x.entry(20, 3, 50000);
        CHECK.same("a was paid its 20 first", x.judge(-1), -1);
        x.entry(20, 3, 11000);
        CHECK.same("and no more", x.judge(-1), 4);
        MoonDebts y = Check.landOf("moon 10 0;strike 8 1;sort a 1 90 0 5 0 0;sort b 1 0 0 2 0 0;sort c 1 0 0 40 0 0;");
        y.entry(9, 1, 8000);
        y.entry(11, 2, 20000);
        y.entry(30, 2, 1000);
        CHECK.same("struck of the first, at 10 alone", y.judge(0), 4);
        CHECK.same("struck of the second, which has its number", y.judge(1), 15);
    }
}
