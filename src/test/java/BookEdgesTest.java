/** Part 3 of Terms (the BOOK) and promises 18 to 20 at their edges: a method for each sentence that names one. */
final class BookEdgesTest {
    private static final String PLAIN = "moon 10 15;strike 8 1;sort a 1 99 0 5 0 16;sort b 1 50 0 20 0 16;sort c 1 0 0 60 0 16;spare sale;";
    private static final Check CHECK = new Check();

    public static void main(String[] args) {
        atMost20Entries();
        nightsInOrder();
        nightsOfRefusedOnes();
        whoAndKind();
        moneyOfEntry();
        moreThanTheHeap();
        withoutLand();
        clear();
        fromNightZeroOn();
        withoutLots();
        sparedAreNotStruck();
        firstThatCannotBeMade();
        lendersHeap();
        paidThatNight();
        struckByTheLastNight();
        struckByTheFirstBadNight();
        upToNight500();
        paidAheadOfStriking();
        numbersTakenAnew();
        zeroIfNotMade();
        judgeAsked();
        CHECK.finish();
    }

    private static void atMost20Entries() {
        CHECK.about("A BOOK (at most 20 ENTRIES) / how many there are; NONE .. if 20 are.");
        MoonDebts x = Check.landOf(PLAIN);
        for (int i = 1; i <= 20; i++) {
            CHECK.same("count(7)", x.count(7), i - 1);
            CHECK.same("entry", x.entry(i, 1, 1000), i);
        }
        CHECK.same("a 21st", x.entry(20, 1, 1000), -1);
        CHECK.same("a 21st on a later night", x.entry(500, 1, 1000), -1);
        CHECK.same("count(7)", x.count(7), 20);
        CHECK.same("clear()", x.clear(), 20);
        CHECK.same("then one more", x.entry(0, 1, 1000), 1);
    }

    private static void nightsInOrder() {
        CHECK.about("tells in order: a night (no less than the one ahead, 0 .. 500)");
        int[] nights = {Integer.MIN_VALUE, -1, 0, 1, 499, 500, 501, Integer.MAX_VALUE};
        for (int night : nights) {
            CHECK.same("entry(" + night + ", ..) first", Check.landOf(PLAIN).entry(night, 1, 1000), night >= 0 && night <= 500 ? 1 : -1);
        }
        for (int ahead : new int[] {0, 1, 250, 499, 500}) {
            for (int night = Math.max(-1, ahead - 2); night <= ahead + 2; night++) {
                MoonDebts x = Check.landOf(PLAIN);
                CHECK.same("entry(" + ahead + ", ..)", x.entry(ahead, 1, 1000), 1);
                boolean can = night >= ahead && night <= 500;
                CHECK.same("entry(" + night + ", ..) behind " + ahead, x.entry(night, 1, 1000), can ? 2 : -1);
                CHECK.same("count(7)", x.count(7), can ? 2 : 1);
            }
        }
    }

    private static void nightsOfRefusedOnes() {
        CHECK.about("no less than the one ahead / What is refused changes nothing.");
        MoonDebts x = Check.landOf(PLAIN);
        CHECK.same("entry(5, ..)", x.entry(5, 1, 1000), 1);
        CHECK.same("entry(9, ..) of nothing", x.entry(9, 1, 0), -1);
        CHECK.same("entry(6, ..)", x.entry(6, 1, 1000), 2);
        CHECK.same("entry(5, ..)", x.entry(5, 1, 1000), -1);
        CHECK.same("entry(6, ..) once more", x.entry(6, 1, 1000), 3);
        x.clear();
        CHECK.same("entry(0, ..) in an empty BOOK", x.entry(0, 1, 1000), 1);
        // The NIGHT of the market has no part in it.
        x.go(200);
        CHECK.same("entry(1, ..) behind night 200", x.entry(1, 1, 1000), 2);
    }

    private static void whoAndKind() {
        CHECK.about("lender, borrower, KIND (loans: KIND * 100 and who)");
        for (int many : new int[] {2, 6}) {
            MoonDebts x = Check.landOf("moon 5 0;" + Check.sorts(many));
            for (int loans = 0; loans <= 610; loans += loans % 100 == 70 ? 30 : 1) {
                int lender = loans / 10 % 10;
                int borrower = loans % 10;
                boolean can = loans < 500 && lender < many && borrower < many && lender != borrower;
                if (can || loans % 4 == 0) {
                    CHECK.same("entry(0, " + loans + ", 1000) of " + many, x.entry(0, loans, 1000), can ? 1 : -1);
                    if (can) {
                        x.clear();
                    }
                }
            }
        }
        MoonDebts x = Check.landOf("moon 5 0;" + Check.sorts(6));
        for (int loans : new int[] {Integer.MIN_VALUE, -401, -101, -100, -99, -98, -10, -1, 10001, 100001, Integer.MAX_VALUE}) {
            CHECK.same("entry(0, " + loans + ", 1000)", x.entry(0, loans, 1000), -1);
        }
        CHECK.same("count(7)", x.count(7), 0);
    }

    private static void moneyOfEntry() {
        CHECK.about("much, price (money: much * 1000 and price)");
        int[][] due = {{Integer.MIN_VALUE, -1}, {-1000, -1}, {-1, -1}, {0, -1}, {400, -1}, {999, -1}, {1000, 1}, {1001, 1}, {1400, 1}, {1401, -1},
            {1999, -1}, {2000, 1}, {9998400, 1}, {9999000, 1}, {9999400, 1}, {9999401, -1}, {9999999, -1}, {10000000, -1}, {10000400, -1},
            {Integer.MAX_VALUE, -1}};
        for (int[] row : due) {
            CHECK.same("entry(0, 1, " + row[0] + ")", Check.landOf(PLAIN).entry(0, 1, row[0]), row[1]);
        }
    }

    private static void moreThanTheHeap() {
        CHECK.about("the first ENTRY that can't be made (lender's heap ..)");
        // An ENTRY that the heap has not enough for is one; only when it is judged it can't be made.
        MoonDebts x = Check.landOf(PLAIN);
        CHECK.same("entry(0, 20, 9999400)", x.entry(0, 20, 9999400), 1);
        CHECK.same("judge(-1)", x.judge(-1), 0);
        CHECK.same("count(7)", x.count(7), 1);
    }

    private static void withoutLand() {
        CHECK.about("MoonDebts(): No LAND. (BOOK)");
        MoonDebts x = new MoonDebts();
        CHECK.same("entry(0, 1, 1000)", x.entry(0, 1, 1000), -1);
        CHECK.same("count(7)", x.count(7), 0);
        CHECK.same("clear()", x.clear(), 0);
        CHECK.same("judge(-1)", x.judge(-1), -1);
        CHECK.same("judge(0)", x.judge(0), -1);
    }

    private static void clear() {
        CHECK.about("The BOOK is empty: how many it had.");
        MoonDebts x = Check.landOf(PLAIN);
        CHECK.same("clear()", x.clear(), 0);
        for (int many = 0; many <= 20; many++) {
            for (int i = 0; i < many; i++) {
                x.entry(3, 20, 9999000);
            }
            CHECK.same("clear() of " + many, x.clear(), many);
            CHECK.same("count(7)", x.count(7), 0);
            CHECK.same("judge(-1)", x.judge(-1), -1);
            CHECK.same("judge(0)", x.judge(0), -1);
        }
    }

    private static void fromNightZeroOn() {
        CHECK.about("JUDGED it is from night 0 and whole COIN on");
        MoonDebts x = Check.landOf(PLAIN);
        x.entry(0, 2, 99000);
        x.lend(2, 0, 99, 0);
        x.go(33);
        CHECK.same("judge(-1), whatever the market has", x.judge(-1), -1);
        CHECK.same("judge(-1) once more", x.judge(-1), -1);
        x.entry(0, 2, 1000);
        CHECK.same("the COIN is whole, and no more", x.judge(-1), 1);
        CHECK.same("NIGHT", x.market(0), 33);
        CHECK.same("heap of a", x.market(10), 0);
        CHECK.same("LOANS", x.market(1), 1);
    }

    private static void withoutLots() {
        CHECK.about("without lots (no CLOUDS, no WORDS: all that is struck is)");
        // CLOUDS are 15 and each WORD is 16.
        MoonDebts x = Check.landOf(PLAIN);
        for (int i = 0; i < 5; i++) {
            x.entry(0, 2, 16000 + i);
        }
        x.entry(10, 1, 1000);
        for (int i = 0; i < 5; i++) {
            CHECK.same("judge(" + i + ")", x.judge(i), 8);
        }
        // S is the LAND's, and E.
        MoonDebts y = Check.landOf("moon 5 15;strike 3 2;sort a 1 99 0 5 0 16;sort b 1 50 0 60 0 16;");
        y.entry(0, 1, 33000);
        y.entry(9, 1, 1000);
        CHECK.same("by night 9", y.judge(0), 0);
        y.entry(19, 1, 1000);
        CHECK.same("by night 19", y.judge(0), 6);
        y.entry(20, 1, 1000);
        CHECK.same("by night 20", y.judge(0), 6 + 5);
        MoonDebts none = Check.landOf("moon 5 0;strike 0 1;sort a 1 99 0 5 0 0;sort b 1 50 0 60 0 0;");
        none.entry(0, 1, 33000);
        none.entry(50, 1, 1000);
        CHECK.same("S 0", none.judge(0), 0);
    }

    private static void sparedAreNotStruck() {
        CHECK.about("of each LOAN (by numbers) whose KIND is not spared (BOOK)");
        String[] kinds = {"loan", "pledge", "sale", "gift", "purse"};
        for (int spared = 0; spared < 5; spared++) {
            MoonDebts x = Check.landOf("moon 5 0;sort a 1 99 0 5 0 0;sort b 1 50 0 60 0 0;spare " + kinds[spared] + ";");
            for (int kind = 0; kind < 5; kind++) {
                x.entry(0, kind * 100 + 1, 7100);
            }
            x.entry(5, 10, 1000);
            for (int kind = 0; kind < 5; kind++) {
                CHECK.same("judge(" + kind + ") with " + kinds[spared] + " spared", x.judge(kind), kind == spared ? 0 : 14);
            }
        }
    }

    private static void firstThatCannotBeMade() {
        CHECK.about("the first ENTRY that can't be made (k NONE; NONE if all can)");
        for (int bad = 0; bad < 20; bad++) {
            MoonDebts x = Check.landOf(PLAIN);
            for (int i = 0; i < 20; i++) {
                // c has nothing; each one behind the first bad one can't be made either, or could.
                x.entry(i, i == bad || i > bad && i % 2 == 0 ? 20 : 1, 1000);
            }
            CHECK.same("judge(-1) where " + bad + " can't", x.judge(-1), bad);
        }
        MoonDebts all = Check.landOf(PLAIN);
        for (int i = 0; i < 20; i++) {
            all.entry(0, 1, 4000);
        }
        CHECK.same("all can", all.judge(-1), -1);
    }

    private static void lendersHeap() {
        CHECK.about("can't be made (lender's heap ..)");
        for (int much = 47; much <= 50; much++) {
            MoonDebts x = Check.landOf(PLAIN);
            x.entry(0, 1, 50000);
            x.entry(0, 2, much * 1000);
            CHECK.same("judge(-1) of 50 and " + much, x.judge(-1), much <= 49 ? -1 : 1);
        }
        // The greatest heap there is at first.
        for (int much = 4949; much <= 4951; much++) {
            MoonDebts x = Check.landOf("moon 5 0;sort a 50 99 0 5 0 0;sort b 1 0 0 5 0 0;");
            x.entry(0, 1, much * 1000 + 400);
            CHECK.same("judge(-1) of " + much, x.judge(-1), much <= 4950 ? -1 : 0);
        }
        // What the borrower took is in work: b can't lend it on.
        MoonDebts x = Check.landOf(PLAIN);
        x.entry(0, 1, 50000);
        x.entry(0, 10, 51000);
        CHECK.same("judge(-1)", x.judge(-1), 1);
    }

    private static void paidThatNight() {
        CHECK.about("A night goes by .. first each LOAN that is due is paid (BOOK)");
        for (int night = 18; night <= 21; night++) {
            MoonDebts x = Check.landOf(PLAIN);
            x.entry(0, 201, 99000);
            x.entry(night, 2, 99000);
            CHECK.same("judge(-1) on night " + night, x.judge(-1), night >= 20 ? -1 : 1);
        }
        // With a price of 10 b pays 108, having 50 and 99.
        MoonDebts x = Check.landOf(PLAIN);
        x.entry(0, 201, 99010);
        x.entry(20, 2, 108000);
        CHECK.same("all of 108", x.judge(-1), -1);
        x.clear();
        x.entry(0, 201, 99010);
        x.entry(20, 2, 109000);
        CHECK.same("one more", x.judge(-1), 1);
    }

    private static void struckByTheLastNight() {
        CHECK.about("and what was struck of each by then (all can be made)");
        for (int night = 8; night <= 12; night++) {
            MoonDebts x = Check.landOf(PLAIN);
            x.entry(0, 1, 40000);
            x.entry(night, 102, 20000);
            CHECK.same("judge(0) by night " + night, x.judge(0), night >= 10 ? 20 : 0);
            CHECK.same("judge(1) by night " + night, x.judge(1), 0);
        }
        MoonDebts x = Check.landOf(PLAIN);
        x.entry(9, 1, 40000);
        CHECK.same("one ENTRY alone: nothing goes by behind it", x.judge(0), 0);
    }

    private static void struckByTheFirstBadNight() {
        CHECK.about("and what was struck of each by then (one can't be made)");
        for (int night = 8; night <= 12; night++) {
            MoonDebts x = Check.landOf(PLAIN);
            x.entry(0, 1, 40000);
            x.entry(night, 20, 1000);
            x.entry(300, 1, 1000);
            CHECK.same("judge(-1)", x.judge(-1), 1);
            CHECK.same("judge(0) by night " + night, x.judge(0), night >= 10 ? 20 : 0);
        }
    }

    private static void upToNight500() {
        CHECK.about("a night (.. 0 .. 500) (JUDGED)");
        // From 440 on: 12 MOONS of 5 nights up to night 500, of each a sixteenth (cut) is struck: 96, 90, 85, .. , 47.
        MoonDebts x = Check.landOf("moon 5 0;strike 1 1;sort a 1 99 0 5 0 0;sort b 1 0 0 60 0 0;");
        x.entry(440, 1, 96000);
        x.entry(499, 1, 1000);
        int struck = 0;
        for (int moon = 0; moon < 11; moon++) {
            struck += (96 - struck) / 16;
        }
        CHECK.same("by night 499", x.judge(0), struck);
        x.entry(500, 1, 1000);
        CHECK.same("by night 500 it was paid ahead", x.judge(0), struck);
        x.clear();
        x.entry(441, 1, 96000);
        x.entry(500, 1, 1000);
        CHECK.same("by night 500", x.judge(0), struck + (96 - struck) / 16);
        x.clear();
        x.entry(500, 1, 99000);
        x.entry(500, 1, 1000);
        CHECK.same("the last night alone", x.judge(-1), 1);
    }

    private static void paidAheadOfStriking() {
        CHECK.about("first .. is paid .. Then, at a FULL MOON at which is struck (BOOK)");
        // b's WORK of 20 nights ends on a MOON if it begins on one.
        MoonDebts x = Check.landOf(PLAIN);
        x.entry(10, 1, 16000);
        x.entry(11, 1, 16000);
        x.entry(40, 1, 1000);
        CHECK.same("struck at 20 alone, paid at 30", x.judge(0), 8);
        CHECK.same("struck at 20 and 30, paid at 31", x.judge(1), 8 + 4);
    }

    private static void numbersTakenAnew() {
        CHECK.about("numbers are taken anew when they are free (BOOK)");
        MoonDebts x = Check.landOf("moon 10 0;strike 8 1;sort a 1 99 0 5 0 0;sort b 1 0 0 1 0 0;sort c 1 0 0 12 0 0;");
        for (int i = 0; i < 10; i++) {
            x.entry(i, 1, 16000);
            x.entry(i, 2, 4000);
        }
        CHECK.same("judge(-1)", x.judge(-1), -1);
        for (int i = 0; i < 20; i++) {
            CHECK.same("judge(" + i + ") by night 9", x.judge(i), 0);
        }
        x.clear();
        for (int i = 0; i < 9; i++) {
            x.entry(i, 1, 16000);
            x.entry(i, 2, 4000);
        }
        x.entry(20, 1, 1000);
        for (int i = 0; i < 18; i++) {
            // b's of night i is paid on the next; c's is struck at 10, and paid by 20.
            CHECK.same("judge(" + i + ") by night 20", x.judge(i), i % 2 == 0 ? 0 : 2);
        }
    }

    private static void zeroIfNotMade() {
        CHECK.about("what was struck of the k-th by then (0 if it wasn't made)");
        MoonDebts x = Check.landOf(PLAIN);
        x.entry(0, 1, 16000);
        x.entry(0, 20, 1000);
        x.entry(0, 1, 16000);
        x.entry(99, 1, 16000);
        CHECK.same("judge(1), the one that can't be made", x.judge(1), 0);
        CHECK.same("judge(2), behind it", x.judge(2), 0);
        CHECK.same("judge(3), long behind it", x.judge(3), 0);
        // What an earlier BOOK was judged does not stay.
        MoonDebts y = Check.landOf(PLAIN);
        y.entry(0, 1, 16000);
        y.entry(10, 1, 16000);
        CHECK.same("judge(0)", y.judge(0), 8);
        y.clear();
        y.entry(0, 20, 16000);
        CHECK.same("judge(0) of another BOOK", y.judge(0), 0);
    }

    private static void judgeAsked() {
        CHECK.about("NONE if there is none such.");
        MoonDebts x = Check.landOf(PLAIN);
        CHECK.same("judge(-1) of an empty BOOK", x.judge(-1), -1);
        CHECK.same("judge(0) of an empty BOOK", x.judge(0), -1);
        for (int many = 1; many <= 20; many++) {
            x.entry(1, 1, 1000);
            CHECK.same("judge(" + (many - 1) + ") of " + many, x.judge(many - 1), 0);
            CHECK.same("judge(" + many + ") of " + many, x.judge(many), -1);
        }
        for (int k : new int[] {Integer.MIN_VALUE, -3, -2, 20, 21, 39, 40, Integer.MAX_VALUE}) {
            CHECK.same("judge(" + k + ")", x.judge(k), -1);
        }
    }
}
