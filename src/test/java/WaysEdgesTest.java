/** Part 5 of Terms and promises 24 and 25 at their edges: a method for each sentence that names one. */
final class WaysEdgesTest {
    private static final int MIN = Integer.MIN_VALUE;
    private static final int MAX = Integer.MAX_VALUE;
    private static final String HEAD = "moon 5 0;sort a 1 1 1 1 1 1;";
    private static final Check CHECK = new Check();

    public static void main(String[] args) {
        oneBehindTheOther();
        cheapest();
        withTheFewest();
        firstByNumbers();
        fromOneThatIsSpared();
        noWay();
        withTwelveTurns();
        roundAsked();
        atMostAToldCost();
        stoppedAreStruck();
        honestAreNotStopped();
        onlySparedAreStopped();
        noneIfThatCannotBe();
        wordsAsked();
        CHECK.finish();
    }

    /** The cost of a way, its TURNS, and none behind them. */
    private static void way(MoonDebts x, int kind, int cost, int... turns) {
        CHECK.same("round(" + kind + ", -1)", x.round(kind, -1), cost);
        for (int k = 0; k < turns.length; k++) {
            CHECK.same("round(" + kind + ", " + k + ")", x.round(kind, k), turns[k]);
        }
        for (int k : new int[] {turns.length, turns.length + 1, 5, 12, MAX}) {
            CHECK.same("round(" + kind + ", " + k + ")", x.round(kind, k), k < turns.length ? turns[k] : -1);
        }
    }

    private static void oneBehindTheOther() {
        CHECK.about("TURNS one behind the other to a KIND that is spared");
        // The longest way goes by all five KINDS.
        MoonDebts x = Check.landOf(HEAD + "spare loan;turn purse gift 99;turn gift sale 99;turn sale pledge 99;turn pledge loan 99;");
        way(x, 4, 396, 0, 1, 2, 3);
        way(x, 3, 297, 1, 2, 3);
        way(x, 1, 99, 3);
        MoonDebts back = Check.landOf(HEAD + "spare purse;turn gift purse 1;turn sale gift 1;turn pledge sale 1;turn loan pledge 1;");
        way(back, 0, 4, 3, 2, 1, 0);
        // A TURN goes one way alone.
        MoonDebts one = Check.landOf(HEAD + "spare purse;turn purse loan 1;");
        way(one, 0, -1);
    }

    private static void cheapest() {
        CHECK.about("CHEAPEST by their A together");
        for (int direct = 5; direct <= 9; direct++) {
            MoonDebts x = Check.landOf(HEAD + "spare purse;turn loan purse " + direct + ";turn loan sale 3;turn sale purse 4;");
            MoonDebts last = Check.landOf(HEAD + "spare purse;turn loan sale 3;turn sale purse 4;turn loan purse " + direct + ";");
            if (direct <= 7) {
                way(x, 0, direct, 0);
                way(last, 0, direct, 2);
            } else {
                way(x, 0, 7, 1, 2);
                way(last, 0, 7, 0, 1);
            }
        }
    }

    private static void withTheFewest() {
        CHECK.about("of like ones that with the fewest");
        MoonDebts x = Check.landOf(HEAD + "spare purse;turn loan pledge 0;turn pledge sale 0;turn sale purse 6;turn pledge purse 6;turn loan gift 0;"
            + "turn gift purse 6;turn loan purse 6;");
        way(x, 0, 6, 6);
        MoonDebts y = Check.landOf(HEAD + "spare purse;turn loan pledge 0;turn pledge sale 0;turn sale purse 6;turn loan gift 1;turn gift purse 5;");
        way(y, 0, 6, 3, 4);
        MoonDebts last = Check.landOf(HEAD + "spare purse;turn sale purse 1;turn pledge sale 1;turn loan pledge 1;turn loan purse 3;");
        way(last, 0, 3, 3);
        // TURNS for nothing go round in a ring, and no way has a TURN too many.
        MoonDebts ring = Check.landOf(HEAD + "spare purse;turn loan pledge 0;turn pledge loan 0;turn pledge purse 0;");
        way(ring, 0, 0, 0, 2);
        way(ring, 1, 0, 2);
        // A way through one that is spared has more TURNS than the way to it.
        MoonDebts by = Check.landOf(HEAD + "spare gift;spare purse;turn gift purse 0;turn loan gift 0;");
        way(by, 0, 0, 1);
    }

    private static void firstByNumbers() {
        CHECK.about("of like ones the first by its first TURN's number, then the second's");
        MoonDebts x = Check.landOf(HEAD + "spare purse;turn sale purse 1;turn pledge purse 1;turn loan pledge 1;turn loan sale 1;");
        way(x, 0, 2, 2, 1);
        MoonDebts y = Check.landOf(HEAD + "spare purse;turn sale purse 1;turn pledge purse 1;turn loan sale 1;turn loan pledge 1;");
        way(y, 0, 2, 2, 0);
        MoonDebts second = Check.landOf(HEAD + "spare gift;spare purse;turn sale purse 1;turn sale gift 1;turn loan sale 1;");
        way(second, 0, 2, 2, 0);
        MoonDebts other = Check.landOf(HEAD + "spare gift;spare purse;turn sale gift 1;turn sale purse 1;turn loan sale 1;");
        way(other, 0, 2, 2, 0);
        MoonDebts direct = Check.landOf(HEAD + "spare gift;spare purse;turn loan gift 5;turn loan purse 5;");
        way(direct, 0, 5, 0);
        // The third's number, where the first two are the same.
        MoonDebts third = Check.landOf(HEAD + "spare gift;spare purse;turn loan pledge 1;turn pledge sale 1;turn sale purse 1;turn sale gift 1;");
        way(third, 0, 3, 0, 1, 2);
        // The first TURN's number counts, though the way's cost is otherwise told by the second: 1 and 3, 3 and 1, 2 and 2.
        MoonDebts costs = Check.landOf(HEAD + "spare purse;turn loan sale 3;turn loan pledge 1;turn loan gift 2;turn pledge purse 3;turn gift purse 2;"
            + "turn sale purse 1;");
        way(costs, 0, 4, 0, 5);
    }

    private static void fromOneThatIsSpared() {
        CHECK.about("from one that is spared: no TURNS.");
        MoonDebts x = Check.landOf(HEAD + "spare loan;spare purse;turn loan purse 0;turn purse loan 0;");
        way(x, 0, 0);
        way(x, 4, 0);
        MoonDebts all = Check.landOf(HEAD + "spare loan;spare pledge;spare sale;spare gift;spare purse;" + Check.turns(12, 0));
        for (int kind = 0; kind < 5; kind++) {
            way(all, kind, 0);
        }
    }

    private static void noWay() {
        CHECK.about("NONE if there is none");
        MoonDebts x = Check.landOf(HEAD + Check.turns(12, 0));
        for (int kind = 0; kind < 5; kind++) {
            way(x, kind, -1);
        }
        MoonDebts y = Check.landOf(HEAD + "spare purse;turn loan pledge 0;turn pledge loan 0;");
        for (int kind = 0; kind < 4; kind++) {
            way(y, kind, -1);
        }
        way(y, 4, 0);
    }

    private static void withTwelveTurns() {
        CHECK.about("at most 12 TURNS (ways)");
        // All TURNS from loan, pledge and sale, each for 99.
        MoonDebts x = Check.landOf(HEAD + "spare purse;" + Check.turns(12, 99));
        way(x, 0, 99, 3);
        way(x, 1, 99, 7);
        way(x, 2, 99, 11);
        way(x, 3, -1);
    }

    private static void roundAsked() {
        CHECK.about("The CHEAPEST WAY ROUND from a KIND: its cost (k NONE), or its k-th TURN; NONE if there is none, none such, or no LAND.");
        MoonDebts x = Check.landOf(HEAD + "spare sale;turn loan sale 7;turn purse sale 8;");
        int[] cost = {7, -1, 0, -1, 8};
        int[] first = {0, -1, -1, -1, 1};
        for (int kind : new int[] {MIN, -2, -1, 0, 1, 2, 3, 4, 5, 6, MAX}) {
            for (int k : new int[] {MIN, -3, -2, -1, 0, 1, 2, MAX}) {
                boolean there = kind >= 0 && kind <= 4;
                int due = there && k == -1 ? cost[kind] : there && k == 0 ? first[kind] : -1;
                CHECK.same("round(" + kind + ", " + k + ")", x.round(kind, k), due);
                CHECK.same("round(" + kind + ", " + k + ") without a LAND", new MoonDebts().round(kind, k), -1);
            }
        }
    }

    private static void atMostAToldCost() {
        CHECK.about("so that from no KIND that is struck (then) a WAY ROUND of at most a told cost goes to one that is spared (then)");
        MoonDebts x = Check.landOf(HEAD + "spare sale;spare purse;turn loan sale 5;turn pledge loan 2;turn gift purse 99;");
        int[][] due = {{0, 0}, {4, 0}, {5, 4}, {6, 4}, {7, 4}, {98, 4}, {99, 20}, {100, 20}, {2000, 20}};
        for (int[] row : due) {
            CHECK.same("words(0, " + row[0] + ")", x.words(0, row[0]), row[1]);
        }
        MoonDebts zero = Check.landOf(HEAD + "spare sale;turn loan sale 0;");
        CHECK.same("a cost of 0", zero.words(0, 0), 4);
        // 396 is the dearest way that can be.
        MoonDebts most = Check.landOf(HEAD + "spare pledge;turn purse gift 99;turn gift sale 99;turn sale loan 99;turn loan pledge 99;");
        CHECK.same("words(0, 98)", most.words(0, 98), 0);
        CHECK.same("words(0, 99)", most.words(0, 99), 2);
    }

    private static void stoppedAreStruck() {
        CHECK.about("STOPPED are KINDS that are spared, if they are spared no more. / struck (then) .. spared (then)");
        // A gift that is stopped goes round by a purse for 1, and that by a pledge for 1.
        MoonDebts chain = Check.landOf(HEAD + "spare gift;spare purse;spare pledge;turn loan gift 1;turn gift purse 1;turn purse pledge 1;");
        CHECK.same("words(0, 0)", chain.words(0, 0), 0);
        CHECK.same("words(0, 1)", chain.words(0, 1), 2 + 8 + 16);
        MoonDebts part = Check.landOf(HEAD + "spare gift;spare purse;spare pledge;turn loan gift 1;turn gift purse 1;turn purse pledge 4;");
        CHECK.same("words(0, 1)", part.words(0, 1), 8 + 16);
        CHECK.same("words(0, 3)", part.words(0, 3), 8 + 16);
        CHECK.same("words(0, 4)", part.words(0, 4), 2 + 8 + 16);
        // Which way is the CHEAPEST is told as before, though words were sought.
        MoonDebts like = Check.landOf(HEAD + "spare gift;spare purse;turn loan gift 5;turn loan purse 5;turn gift purse 0;");
        way(like, 0, 5, 0);
        CHECK.same("words(0, 5)", like.words(0, 5), 24);
        way(like, 0, 5, 0);
        // The LAND itself is as it was.
        CHECK.same("count(6)", part.count(6), 2 + 8 + 16);
        CHECK.same("round(0, -1)", part.round(0, -1), 1);
    }

    private static void honestAreNotStopped() {
        CHECK.about("KINDS to be STOPPED (not those that are honest, told as bits)");
        String[] kinds = {"loan", "pledge", "sale", "gift", "purse"};
        for (int to = 0; to < 5; to++) {
            int from = (to + 1) % 5;
            MoonDebts x = Check.landOf(HEAD + "spare " + kinds[to] + ";turn " + kinds[from] + " " + kinds[to] + " 3;");
            for (int honest = 0; honest <= 31; honest++) {
                boolean can = (honest >> to & 1) == 0;
                CHECK.same("words(" + honest + ", 3) with " + kinds[to], x.words(honest, 3), can ? 1 << to : -1);
                CHECK.same("words(" + honest + ", 2) with " + kinds[to], x.words(honest, 2), 0);
            }
        }
    }

    private static void onlySparedAreStopped() {
        CHECK.about("STOPPED are KINDS that are spared");
        MoonDebts none = Check.landOf(HEAD + Check.turns(12, 0));
        CHECK.same("nothing is spared", none.words(0, 2000), 0);
        CHECK.same("nothing is spared, all are honest", none.words(31, 2000), 0);
        MoonDebts all = Check.landOf(HEAD + "spare loan;spare pledge;spare sale;spare gift;spare purse;" + Check.turns(12, 0));
        CHECK.same("nothing is struck", all.words(0, 2000), 0);
        MoonDebts apart = Check.landOf(HEAD + "spare gift;spare purse;turn gift purse 0;turn purse gift 0;turn loan sale 0;");
        CHECK.same("no way from one that is struck", apart.words(0, 2000), 0);
        MoonDebts four = Check.landOf(HEAD + "spare pledge;spare sale;spare gift;spare purse;" + Check.turns(12, 9));
        CHECK.same("four words", four.words(0, 9), 30);
        CHECK.same("none at 8", four.words(0, 8), 0);
    }

    private static void noneIfThatCannotBe() {
        CHECK.about("none, if that can't be.");
        // The gift must be stopped, and then the purse, which is honest.
        MoonDebts x = Check.landOf(HEAD + "spare gift;spare purse;turn loan gift 1;turn gift purse 2;");
        CHECK.same("words(16, 1)", x.words(16, 1), 8);
        CHECK.same("words(16, 2)", x.words(16, 2), -1);
        CHECK.same("words(8, 1)", x.words(8, 1), -1);
        CHECK.same("words(8, 0)", x.words(8, 0), 0);
        CHECK.same("words(24, 2000)", x.words(24, 2000), -1);
        CHECK.same("words(7, 2000)", x.words(7, 2000), 24);
    }

    private static void wordsAsked() {
        CHECK.about("FEWEST words (bits; honest 0 .. 31, cost 0 .. 2000); NONE if there are none, they can't be, or without a LAND.");
        MoonDebts x = Check.landOf(HEAD);
        for (int honest : new int[] {MIN, -32, -1, 0, 1, 30, 31, 32, 33, MAX}) {
            for (int cost : new int[] {MIN, -1, 0, 1, 1999, 2000, 2001, MAX}) {
                boolean can = honest >= 0 && honest <= 31 && cost >= 0 && cost <= 2000;
                CHECK.same("words(" + honest + ", " + cost + ")", x.words(honest, cost), can ? 0 : -1);
                CHECK.same("words(" + honest + ", " + cost + ") without a LAND", new MoonDebts().words(honest, cost), -1);
            }
        }
    }
}
