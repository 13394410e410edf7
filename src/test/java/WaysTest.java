/** Promises 24 and 25: the CHEAPEST WAY ROUND, and the FEWEST words. */
final class WaysTest {
    private static final String SORT = "moon 5 0;sort a 1 1 1 1 1 1;";
    private static final Check CHECK = new Check();

    public static void main(String[] args) {
        cheapest();
        fewestThenFirst();
        noWays();
        fewestWords();
        stoppedKindsAreStruck();
        honestKinds();
        refused();
        CHECK.finish();
    }

    /** The cost of a way, and its TURNS. */
    private static void way(MoonDebts x, int kind, int cost, int... turns) {
        CHECK.same("round(" + kind + ", -1)", x.round(kind, -1), cost);
        for (int k = 0; k < turns.length; k++) {
            CHECK.same("round(" + kind + ", " + k + ")", x.round(kind, k), turns[k]);
        }
        CHECK.same("round(" + kind + ", " + turns.length + ")", x.round(kind, turns.length), -1);
        CHECK.same("round(" + kind + ", MAX)", x.round(kind, Integer.MAX_VALUE), -1);
    }

    private static void cheapest() {
        MoonDebts x = Check.landOf(SORT + "spare purse;turn loan purse 99;turn loan pledge 20;turn pledge sale 20;turn sale gift 20;"
            + "turn gift purse 20;turn purse loan 0;");
        way(x, 0, 80, 1, 2, 3, 4);
        way(x, 1, 60, 2, 3, 4);
        way(x, 2, 40, 3, 4);
        way(x, 3, 20, 4);
        way(x, 4, 0);
        CHECK.same("round(0, -2)", x.round(0, -2), -1);
        CHECK.same("round(5, -1)", x.round(5, -1), -1);
        CHECK.same("round(-1, -1)", x.round(-1, -1), -1);
    }

    private static void fewestThenFirst() {
        MoonDebts few = Check.landOf(SORT + "spare purse;turn loan pledge 2;turn pledge purse 3;turn loan purse 5;");
        way(few, 0, 5, 2);
        MoonDebts zero = Check.landOf(SORT + "spare purse;spare gift;turn gift purse 0;turn loan pledge 0;turn pledge loan 0;"
            + "turn loan gift 0;turn loan purse 0;");
        way(zero, 0, 0, 3);
        way(zero, 1, 0, 2, 3);
        way(zero, 3, 0);
        // Two ways of two TURNS that cost 7: by their first TURN, though the second of the other is less.
        MoonDebts first = Check.landOf(SORT + "spare purse;turn pledge purse 4;turn loan sale 2;turn loan pledge 3;turn sale purse 5;");
        way(first, 0, 7, 1, 3);
        // One first TURN, then the second's number tells.
        MoonDebts second = Check.landOf(SORT + "spare purse;spare gift;turn loan sale 2;turn sale purse 5;turn sale gift 5;");
        way(second, 0, 7, 0, 1);
    }

    private static void noWays() {
        MoonDebts x = Check.landOf(SORT + "turn loan sale 2;turn sale loan 0;");
        way(x, 0, -1);
        way(x, 2, -1);
        MoonDebts y = Check.landOf(SORT + "spare loan;turn loan sale 2;turn pledge sale 1;turn sale pledge 1;");
        way(y, 0, 0);
        way(y, 1, -1);
        CHECK.same("no TURNS", Check.landOf(SORT + "spare loan;").round(1, -1), -1);
    }

    private static void fewestWords() {
        MoonDebts x = Check.landOf(SORT + "spare sale;spare gift;spare purse;turn loan sale 5;turn loan gift 8;turn pledge gift 3;");
        CHECK.same("nothing costs 2 or less", x.words(0, 2), 0);
        CHECK.same("a gift must be stopped", x.words(0, 3), 8);
        CHECK.same("a gift alone at 4", x.words(0, 4), 8);
        CHECK.same("a sale too at 5", x.words(0, 5), 12);
        CHECK.same("purse needs no word", x.words(0, 2000), 12);
        MoonDebts none = Check.landOf(SORT + "turn loan sale 5;");
        CHECK.same("nothing is spared", none.words(0, 2000), 0);
        MoonDebts all = Check.landOf(SORT + "spare loan;spare pledge;spare sale;spare gift;spare purse;turn loan sale 5;");
        CHECK.same("all are spared", all.words(31, 2000), 0);
    }

    private static void stoppedKindsAreStruck() {
        // A sale that is stopped is struck, and goes round by a gift for 4.
        MoonDebts x = Check.landOf(SORT + "spare sale;spare gift;turn loan sale 5;turn sale gift 4;");
        CHECK.same("a sale for 5, then a gift for 4", x.words(0, 5), 12);
        CHECK.same("at 4 a sale is spared still", x.words(0, 4), 0);
        MoonDebts y = Check.landOf(SORT + "spare sale;spare gift;turn loan sale 5;turn sale gift 6;");
        CHECK.same("at 5 the sale alone", y.words(0, 5), 4);
        CHECK.same("at 6 the gift too", y.words(0, 6), 12);
        // A pledge that is stopped alone goes round by a sale, so both must be.
        MoonDebts z = Check.landOf(SORT + "spare pledge;spare sale;turn purse pledge 1;turn purse sale 1;turn pledge sale 1;");
        CHECK.same("both", z.words(0, 1), 6);
    }

    private static void honestKinds() {
        MoonDebts x = Check.landOf(SORT + "spare sale;spare gift;turn loan sale 5;turn pledge gift 3;");
        CHECK.same("a sale is honest", x.words(4, 5), -1);
        CHECK.same("a sale is honest, at 4", x.words(4, 4), 8);
        CHECK.same("others are honest", x.words(19, 5), 12);
        CHECK.same("a gift is honest", x.words(8, 3), -1);
        CHECK.same("all are honest, at 2", x.words(31, 2), 0);
    }

    private static void refused() {
        MoonDebts x = Check.landOf(SORT + "spare sale;turn loan sale 0;");
        CHECK.same("words(0, 0)", x.words(0, 0), 4);
        CHECK.same("words(0, 2000)", x.words(0, 2000), 4);
        CHECK.same("words(0, 2001)", x.words(0, 2001), -1);
        CHECK.same("words(0, -1)", x.words(0, -1), -1);
        CHECK.same("words(-1, 0)", x.words(-1, 0), -1);
        CHECK.same("words(32, 0)", x.words(32, 0), -1);
    }
}
