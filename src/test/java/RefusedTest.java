import java.util.ArrayList;
import java.util.List;
import java.util.function.Supplier;
import java.util.function.ToIntFunction;

/**
 * "What is refused changes nothing": each call that is refused is made on one of two objects with the same past, and
 * then both must answer alike, to all that can be asked and to what comes next. So must calls that only ask.
 */
final class RefusedTest {
    private static final int MIN = Integer.MIN_VALUE;
    private static final int MAX = Integer.MAX_VALUE;
    private static final int[] WILD = {MIN, -1, MAX};
    private static final Check CHECK = new Check();

    public static void main(String[] args) {
        CHECK.about("What is refused changes nothing.");
        refusedWithoutLand();
        refusedTexts();
        refusedLoans();
        refusedNightsAndImages();
        refusedEntries();
        refusedQuestions();
        refusedWhenFull();
        askingChangesNothing();
        CHECK.finish();
    }

    /** No LAND, but some bytes and a seed. */
    private static MoonDebts bare() {
        MoonDebts x = new MoonDebts();
        x.seed(5);
        Check.text(x, "moon 7 2;sort z 3 4 5 6 7 8;");
        return x;
    }

    /** A LAND with all there is, but nothing is full; the text is another LAND. */
    private static MoonDebts busy() {
        MoonDebts x = Check.landOf("moon 5 4;strike 8 1;wait 2;sort a 2 50 0 9 0 0;sort b 3 9 20 14 10 7;sort c 1 5 40 12 20 8;spare sale;"
            + "turn loan sale 3;turn pledge loan 2;");
        x.seed(77);
        x.lend(1, 0, 30, 10);
        x.image(0);
        x.lend(2, 1, 20, 50);
        x.lend(10, 2, 9, 100);
        x.go(6);
        x.image(1);
        x.go(1);
        x.lend(1, 3, 5, 400);
        x.entry(0, 1, 40000);
        x.entry(4, 102, 50010);
        x.entry(8, 20, 5000);
        Check.text(x, "moon 7 2;sort z 3 4 5 6 7 8;");
        return x;
    }

    /** 6 SORTS, 12 TURNS, 40 LOANS, 20 ENTRIES, 3 images and 500 bytes. */
    private static MoonDebts full() {
        MoonDebts x = Check.landOf("moon 5 4;strike 8 1;" + Check.turns(12, 7) + "sort a 2 50 0 60 0 0;sort b 9 9 20 50 10 7;"
            + Check.sorts(6).substring(2 * Check.sorts(1).length()));
        x.image(0);
        for (int i = 0; i < 40; i++) {
            x.lend(i % 2 == 0 ? 1 : 10, i % 5, 2, i);
            if (i == 20) {
                x.go(7);
                x.image(1);
            }
        }
        x.image(2);
        for (int i = 0; i < 20; i++) {
            x.entry(i, 1, 4000);
        }
        Check.text(x, "moon 7 2;" + " ".repeat(472) + "sort z 3 4 5 6 7 8;");
        return x;
    }

    private static List<Integer> seen(MoonDebts x) {
        List<Integer> row = new ArrayList<>();
        seenOfLand(x, row);
        for (int k = -1; k <= 20; k += k < 4 ? 1 : 5) {
            row.add(x.judge(k));
        }
        row.add(x.fault());
        seenOfMarket(x, row);
        row.add(x.go(8));
        seenOfMarket(x, row);
        for (int k = 0; k < 3; k++) {
            row.add(x.on(k) ? 1 : 0);
            row.add(x.go(5));
            row.add(x.market(1));
            row.add(x.market(2));
            row.add(x.market(3));
            row.add(x.market(10));
        }
        row.add(x.entry(300, 1, 1000));
        row.add(x.clear());
        row.add(x.land());
        seenOfLand(x, row);
        row.add(x.on(0) ? 1 : 0);
        return row;
    }

    private static void seenOfLand(MoonDebts x, List<Integer> row) {
        for (int what = 0; what <= 8; what++) {
            row.add(x.count(what));
        }
        for (int i = 0; i < 36; i++) {
            row.add(x.sort(i / 6, i % 6));
        }
        for (int kind = 0; kind < 5; kind++) {
            row.add(x.round(kind, -1));
        }
        row.add(x.back(0, 3, 1));
        row.add(x.best(2));
    }

    private static void seenOfMarket(MoonDebts x, List<Integer> row) {
        for (int what = 0; what <= 3; what++) {
            row.add(x.market(what));
        }
        for (int sort = 0; sort < 6; sort += 1) {
            row.add(x.market(10 + sort));
            row.add(x.market(20 + sort));
        }
        for (int loan = 0; loan < 40; loan++) {
            row.add(x.loan(loan, 4));
            row.add(x.loan(loan, loan % 6));
        }
    }

    /** A call of which the answer is told, and behind which all is as without it. */
    private static void refused(String call, Supplier<MoonDebts> past, int due, ToIntFunction<MoonDebts> made) {
        MoonDebts x = past.get();
        CHECK.same(call, made.applyAsInt(x), due);
        CHECK.yes(call + " changes nothing", seen(x).equals(seen(past.get())));
    }

    private static void no(String call, Supplier<MoonDebts> past, ToIntFunction<MoonDebts> made) {
        refused(call, past, -1, made);
    }

    private static int bit(boolean answer) {
        return answer ? 1 : 0;
    }

    private static void refusedWithoutLand() {
        Supplier<MoonDebts> past = RefusedTest::bare;
        no("sort", past, x -> x.sort(0, 0));
        no("back", past, x -> x.back(0, 0, 0));
        no("lent", past, x -> x.lent(-1, 0));
        no("brought", past, x -> x.brought(0));
        no("moon", past, x -> x.moon(0, 1, 0));
        no("best", past, x -> x.best(0));
        refused("gains", past, -999999, x -> x.gains(0));
        no("lend", past, x -> x.lend(1, 0, 1, 0));
        no("go", past, x -> x.go(1));
        no("market", past, x -> x.market(0));
        no("loan", past, x -> x.loan(0, 0));
        no("entry", past, x -> x.entry(0, 1, 1000));
        refused("clear", past, 0, MoonDebts::clear);
        no("judge", past, x -> x.judge(-1));
        no("round", past, x -> x.round(0, -1));
        no("words", past, x -> x.words(0, 0));
        no("purse", past, x -> x.purse(0, 0));
        no("cloudy", past, x -> x.cloudy(1, 0));
        refused("image", past, 0, x -> bit(x.image(0)));
        refused("on", past, 0, x -> bit(x.on(0)));
        refused("seed", past, 0, x -> bit(x.seed(-1)));
        refused("end", past, 0, x -> bit(x.end(29)));
    }

    private static void refusedTexts() {
        Supplier<MoonDebts> past = RefusedTest::busy;
        for (int n : new int[] {MIN, -2, -1, 29, 30, 500, 501, MAX}) {
            refused("end(" + n + ")", past, 0, x -> bit(x.end(n)));
        }
        // A LAND that is refused: the text stays too, so both objects are told the same one with a FAULT.
        Supplier<MoonDebts> faulty = () -> {
            MoonDebts x = busy();
            Check.text(x, "moon 9 9;strike 1 9;wait 9;spare gift;turn gift sale 1;sort q 9 9 9 9 9 9;sort q");
            return x;
        };
        no("land() with a FAULT", faulty, MoonDebts::land);
        refused("fault() with a FAULT", faulty, 79, MoonDebts::fault);
        Supplier<MoonDebts> empty = () -> {
            MoonDebts x = busy();
            x.end(0);
            return x;
        };
        no("land() of an empty text", empty, MoonDebts::land);
    }

    private static void refusedLoans() {
        Supplier<MoonDebts> past = RefusedTest::busy;
        for (int who : new int[] {MIN, -10, -1, 0, 11, 22, 3, 13, 30, 33, 99, 100, 101, MAX}) {
            no("lend(" + who + ", 0, 1, 0)", past, x -> x.lend(who, 0, 1, 0));
        }
        for (int kind : new int[] {MIN, -1, 5, MAX}) {
            no("lend(1, " + kind + ", 1, 0)", past, x -> x.lend(1, kind, 1, 0));
        }
        for (int much : new int[] {MIN, -1, 0, 46, 9999, 10000, MAX}) {
            no("lend(1, 0, " + much + ", 0)", past, x -> x.lend(1, 0, much, 0));
        }
        for (int price : new int[] {MIN, -1, 401, MAX}) {
            no("lend(1, 0, 1, " + price + ")", past, x -> x.lend(1, 0, 1, price));
        }
        CHECK.same("a has 45 left", busy().market(10), 45);
        CHECK.same("and all of it can be lent", busy().lend(1, 0, 45, 0), 4);
    }

    private static void refusedNightsAndImages() {
        Supplier<MoonDebts> past = RefusedTest::busy;
        for (int n : new int[] {MIN, -1, 0, 201, MAX}) {
            no("go(" + n + ")", past, x -> x.go(n));
        }
        for (int seed : new int[] {MIN, -1, 1000001, MAX}) {
            refused("seed(" + seed + ")", past, 0, x -> bit(x.seed(seed)));
        }
        for (int k : new int[] {MIN, -1, 3, MAX}) {
            refused("image(" + k + ")", past, 0, x -> bit(x.image(k)));
            refused("on(" + k + ")", past, 0, x -> bit(x.on(k)));
        }
        refused("on(2), of which there is none", past, 0, x -> bit(x.on(2)));
    }

    private static void refusedEntries() {
        Supplier<MoonDebts> past = RefusedTest::busy;
        for (int night : new int[] {MIN, -1, 0, 7, 501, MAX}) {
            no("entry(" + night + ", 1, 1000)", past, x -> x.entry(night, 1, 1000));
        }
        for (int loans : new int[] {MIN, -1, 0, 11, 3, 30, 500, 501, MAX}) {
            no("entry(8, " + loans + ", 1000)", past, x -> x.entry(8, loans, 1000));
        }
        for (int money : new int[] {MIN, -1, 0, 999, 1401, 9999401, 10000000, MAX}) {
            no("entry(8, 1, " + money + ")", past, x -> x.entry(8, 1, money));
        }
        for (int k : new int[] {MIN, -2, 3, MAX}) {
            no("judge(" + k + ")", past, x -> x.judge(k));
        }
    }

    private static void refusedQuestions() {
        Supplier<MoonDebts> past = RefusedTest::busy;
        for (int wild : WILD) {
            no("sort", past, x -> x.sort(wild, 0));
            no("sort", past, x -> x.sort(0, wild));
            no("back", past, x -> x.back(wild, 0, 0));
            no("back", past, x -> x.back(0, wild, 0));
            no("back", past, x -> x.back(0, 0, wild));
            no("lent", past, x -> x.lent(0, wild));
            no("brought", past, x -> x.brought(wild));
            no("moon", past, x -> x.moon(wild, 1, 0));
            no("moon", past, x -> x.moon(0, wild, 0));
            no("moon", past, x -> x.moon(0, 1, wild));
            no("best", past, x -> x.best(wild));
            refused("gains", past, -999999, x -> x.gains(wild));
            no("market", past, x -> x.market(wild));
            no("loan", past, x -> x.loan(wild, 0));
            no("loan", past, x -> x.loan(0, wild));
            no("count", past, x -> x.count(wild));
            no("round", past, x -> x.round(wild, -1));
            no("words", past, x -> x.words(wild, 0));
            no("words", past, x -> x.words(0, wild));
            no("purse", past, x -> x.purse(wild, 0));
            no("purse", past, x -> x.purse(0, wild));
            no("cloudy", past, x -> x.cloudy(wild, 0));
            no("cloudy", past, x -> x.cloudy(1, wild));
            no("holds", past, x -> x.holds(wild, 0, 0));
            no("greatest", past, x -> x.greatest(wild, 0));
            no("names", past, x -> x.names(wild, 12));
            no("part", past, x -> x.part(wild, 1, 0));
            no("shrunk", past, x -> x.shrunk(wild, 100, 0, 1));
            no("shrunk", past, x -> x.shrunk(1, wild, 0, 1));
        }
        no("lent(-2, 0)", past, x -> x.lent(-2, 0));
        no("lent(3, 0)", past, x -> x.lent(3, 0));
        no("round(0, -2)", past, x -> x.round(0, -2));
    }

    private static void refusedWhenFull() {
        Supplier<MoonDebts> past = RefusedTest::full;
        CHECK.same("LOANS", full().market(1), 40);
        CHECK.same("ENTRIES", full().count(7), 20);
        CHECK.same("bytes", full().count(8), 500);
        no("a 41st LOAN", past, x -> x.lend(1, 0, 1, 0));
        no("a 21st ENTRY", past, x -> x.entry(19, 1, 1000));
        no("a 501st byte", past, x -> x.feed(-1, -1, -1, -1, -1));
        no("a 501st byte, blank", past, x -> x.feed(0x20202020, 0x20202020, 0x20202020, 0x20202020, 0x20202020));
        refused("end(501)", past, 0, x -> bit(x.end(501)));
        refused("a 4th image", past, 0, x -> bit(x.image(3)));
        Supplier<MoonDebts> behind481 = () -> {
            MoonDebts x = full();
            x.end(481);
            return x;
        };
        no("20 bytes behind 481", behind481, x -> x.feed(-1, -1, -1, -1, -1));
    }

    private static void askingChangesNothing() {
        Supplier<MoonDebts> past = RefusedTest::busy;
        refused("fault()", past, -1, MoonDebts::fault);
        refused("sort(1, 4)", past, 10, x -> x.sort(1, 4));
        refused("back(1, 0, 2)", past, 50, x -> x.back(1, 0, 2));
        refused("lent(0, 0)", past, 0, x -> x.lent(0, 0));
        refused("brought(0)", past, busy().brought(0), x -> x.brought(0));
        refused("moon(16, 1, 1)", past, busy().moon(16, 1, 1), x -> x.moon(16, 1, 1));
        refused("best(2)", past, busy().best(2), x -> x.best(2));
        refused("gains(2)", past, busy().gains(2), x -> x.gains(2));
        refused("market(0)", past, 7, x -> x.market(0));
        refused("loan(3, 4)", past, 25, x -> x.loan(3, 4));
        refused("judge(-1)", past, -1, x -> x.judge(-1));
        refused("judge(0)", past, 20, x -> x.judge(0));
        refused("judge(1)", past, 27, x -> x.judge(1));
        refused("holds(1, 15, 1)", past, 1, x -> x.holds(1, 15, 1));
        refused("greatest(15, 1)", past, 1, x -> x.greatest(15, 1));
        refused("names(60, 2)", past, 11, x -> x.names(60, 2));
        refused("round(1, -1)", past, 5, x -> x.round(1, -1));
        refused("words(0, 2000)", past, 4, x -> x.words(0, 2000));
        refused("purse(100, 0)", past, 33 + 35, x -> x.purse(100, 0));
        refused("part(9, 3, 1)", past, 6, x -> x.part(9, 3, 1));
        refused("shrunk(9, 301, 16, 1)", past, 3, x -> x.shrunk(9, 301, 16, 1));
        refused("cloudy(1, 1)", past, 250, x -> x.cloudy(1, 1));
        refused("count(8)", past, 28, x -> x.count(8));
    }
}
