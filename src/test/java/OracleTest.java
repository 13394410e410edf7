import java.nio.charset.StandardCharsets;
import java.util.Arrays;
import java.util.Random;

/** Runs of calls by fixed lots, each answer compared with the Oracle's. */
final class OracleTest {
    private static final int[] WILD = {-1, -2, 0, 1, 5, 6, 16, 17, 39, 40, 41, 99, 100, 499, 500, 501, 1000, 9999, 10000,
        99999, 100000, 1000000, 1000001, Integer.MAX_VALUE, Integer.MIN_VALUE};
    private static final String[] NAMES = {"a", "b", "smith", "farmer", "abcdefgh", "abcdefghi", "x", "moo", "moons", "z"};

    private final Check check = new Check();
    private final Random lots;
    private MoonDebts debts = new MoonDebts();
    private Oracle oracle = new Oracle();

    private OracleTest(long seed) {
        lots = new Random(seed);
    }

    public static void main(String[] args) {
        Check all = new Check();
        for (int run = 0; run < 1500; run++) {
            OracleTest test = new OracleTest(run);
            test.run();
            all.yes("run " + run, test.check.allRight());
        }
        all.finish();
    }

    private void run() {
        boolean faulty = lots.nextInt(4) == 0;
        for (int lands = 0; lands < 2; lands++) {
            for (int i = lots.nextInt(4); i > 0; i--) {
                anyCall();
            }
            feedText(landText(faulty), faulty);
            same("fault()", debts.fault(), oracle.fault());
            same("land()", debts.land(), oracle.land());
            for (int i = 0; i < 200; i++) {
                anyCall();
            }
        }
    }

    private void same(String call, long got, long due) {
        check.same(call, got, due);
    }

    private void same(String call, boolean got, boolean due) {
        check.same(call, got ? 1 : 0, due ? 1 : 0);
    }

    private int in(int least, int most) {
        if (lots.nextInt(40) == 0) {
            return WILD[lots.nextInt(WILD.length)];
        }
        if (lots.nextInt(12) == 0) {
            return lots.nextBoolean() ? least : most;
        }
        return least + lots.nextInt(most - least + 1);
    }

    private String number(int least, int most, boolean faulty) {
        int n = faulty && lots.nextInt(60) == 0 ? most + 1 + lots.nextInt(3) : least + lots.nextInt(most - least + 1);
        if (faulty && lots.nextInt(60) == 0) {
            n = Math.max(0, least - 1);
        }
        if (lots.nextInt(8) == 0) {
            n = lots.nextBoolean() ? least : most;
        }
        return (lots.nextInt(50) == 0 ? " 00" : " ") + n;
    }

    private String kind(boolean faulty) {
        if (faulty && lots.nextInt(60) == 0) {
            return " " + NAMES[lots.nextInt(NAMES.length)];
        }
        return " " + Oracle.KINDS.get(lots.nextInt(5));
    }

    private String landText(boolean faulty) {
        java.util.List<String> lines = new java.util.ArrayList<>();
        for (int i = 0; i < (faulty && lots.nextInt(20) == 0 ? 2 : 1); i++) {
            lines.add("moon" + number(5, 30, faulty) + number(0, 15, faulty) + ";");
        }
        if (lots.nextInt(4) > 0) {
            lines.add("strike" + number(0, 16, faulty) + number(1, lots.nextBoolean() ? 9 : 2, faulty) + ";");
        }
        if (lots.nextInt(3) > 0) {
            lines.add("wait" + number(0, lots.nextBoolean() ? 50 : 10, faulty) + ";");
        }
        addSorts(lines, faulty);
        addSparesAndTurns(lines, faulty);
        java.util.Collections.shuffle(lines, lots);
        return String.join(lots.nextBoolean() ? "\n" : lots.nextBoolean() ? " " : "", lines);
    }

    private void addSorts(java.util.List<String> lines, boolean faulty) {
        int sorts = 1 + lots.nextInt(faulty && lots.nextInt(10) == 0 ? 8 : 6);
        for (int i = 0; i < sorts; i++) {
            String name = faulty && lots.nextInt(30) == 0 ? NAMES[lots.nextInt(NAMES.length)] : "s" + (char) ('a' + i);
            boolean rich = lots.nextInt(3) == 0;
            lines.add("sort " + name + number(1, lots.nextBoolean() ? 50 : 5, faulty) + number(0, rich ? 99 : 20, faulty)
                + number(0, rich ? 20 : 99, faulty) + number(1, lots.nextBoolean() ? 60 : 20, faulty)
                + number(0, 99, faulty) + number(0, 16, faulty) + ";");
        }
    }

    private void addSparesAndTurns(java.util.List<String> lines, boolean faulty) {
        java.util.Set<String> seen = new java.util.HashSet<>();
        for (int i = lots.nextInt(4); i > 0; i--) {
            String spare = "spare" + kind(faulty) + ";";
            if (seen.add(spare) || faulty && lots.nextInt(4) == 0) {
                lines.add(spare);
            }
        }
        int most = lots.nextInt(3) == 0 ? 3 : 99;
        for (int i = lots.nextInt(14); i > 0; i--) {
            String from = kind(faulty);
            String to = kind(faulty);
            boolean fits = seen.size() < 16 && !from.equals(to) && seen.add(from + to);
            if (fits || faulty && lots.nextInt(12) == 0) {
                lines.add("turn" + from + to + number(0, most, faulty) + ";");
            }
        }
    }

    private void feedText(String text, boolean faulty) {
        byte[] bytes = text.getBytes(StandardCharsets.ISO_8859_1);
        if (faulty && bytes.length > 0 && lots.nextInt(3) == 0) {
            bytes[lots.nextInt(bytes.length)] = (byte) (lots.nextBoolean() ? lots.nextInt(256) : "; \n0z9A\t".charAt(lots.nextInt(8)));
        }
        int length = Math.min(500, faulty && lots.nextInt(4) == 0 ? lots.nextInt(bytes.length + 1) : bytes.length);
        byte[] padded = Arrays.copyOf(bytes, (bytes.length + 19) / 20 * 20);
        same("end(0)", debts.end(0), oracle.end(0));
        for (int i = 0; i < padded.length; i += 20) {
            java.nio.ByteBuffer row = java.nio.ByteBuffer.wrap(padded, i, 20);
            int a = row.getInt();
            int b = row.getInt();
            int c = row.getInt();
            int d = row.getInt();
            int e = row.getInt();
            same("feed", debts.feed(a, b, c, d, e), oracle.feed(a, b, c, d, e));
        }
        same("end(" + length + ")", debts.end(length), oracle.end(length));
    }

    private void anyCall() {
        int call = lots.nextInt(34);
        if (call < 11) {
            callOfLand(call);
        } else if (call < 22) {
            callOfMarket(call);
        } else {
            callOfSums(call);
        }
    }

    private void callOfLand(int call) {
        int a = in(0, 6);
        int b = in(0, 5);
        int night = in(0, 500);
        switch (call) {
            case 0 -> same("sort(" + a + ", " + b + ")", debts.sort(a, b), oracle.sort(a, b));
            case 1, 2 -> {
                int what = in(0, 2);
                same("back(" + a + ", " + night + ", " + what + ")", debts.back(a, night, what), oracle.back(a, night, what));
            }
            case 3 -> same("lent(" + a + ", " + night + ")", debts.lent(a, night), oracle.lent(a, night));
            case 4 -> same("lent(-1, " + night + ")", debts.lent(-1, night), oracle.lent(-1, night));
            case 5 -> same("brought(" + night + ")", debts.brought(night), oracle.brought(night));
            case 6 -> {
                int s = in(0, 16);
                int e = in(1, 9);
                int what = in(0, 1);
                same("moon(" + s + ", " + e + ", " + what + ")", debts.moon(s, e, what), oracle.moon(s, e, what));
            }
            case 7 -> {
                // The Oracle seeks the best law slowly.
                int what = lots.nextInt(20) == 0 ? in(0, 2) : 3;
                same("best(" + what + ")", debts.best(what), oracle.best(what));
            }
            case 8 -> same("gains(" + a + ")", debts.gains(a), oracle.gains(a));
            case 9 -> {
                int what = in(0, 8);
                same("count(" + what + ")", debts.count(what), oracle.count(what));
            }
            default -> {
                same("fault()", debts.fault(), oracle.fault());
                int n = in(0, 20);
                same("end(" + n + ")", debts.end(n), oracle.end(n));
            }
        }
    }

    private int who() {
        int sorts = Math.max(2, oracle.count(0));
        int lender = lots.nextInt(sorts);
        int borrower = (lender + 1 + lots.nextInt(sorts - 1)) % sorts;
        return lots.nextInt(20) == 0 ? in(0, 77) : lender * 10 + borrower;
    }

    private void callOfMarket(int call) {
        int kind = in(0, 4);
        int much = lots.nextInt(3) == 0 ? in(1, 2000) : in(1, 60);
        int price = in(0, 400);
        switch (call) {
            case 11, 12, 13 -> {
                int who = who();
                same("lend(" + who + ", " + kind + ", " + much + ", " + price + ")",
                    debts.lend(who, kind, much, price), oracle.lend(who, kind, much, price));
            }
            case 14, 15 -> {
                int n = lots.nextInt(10) == 0 ? in(1, 200) : in(1, 9);
                same("go(" + n + ")", debts.go(n), oracle.go(n));
            }
            case 16 -> {
                int what = in(0, 26);
                same("market(" + what + ")", debts.market(what), oracle.market(what));
            }
            case 17 -> {
                int loan = in(0, 8);
                int what = in(0, 5);
                same("loan(" + loan + ", " + what + ")", debts.loan(loan, what), oracle.loan(loan, what));
            }
            case 18, 19 -> {
                int last = in(0, 500) / 20 + debts.count(7) * 12;
                int loans = kind * 100 + who();
                int money = much * 1000 + price;
                same("entry(" + last + ", " + loans + ", " + money + ")",
                    debts.entry(last, loans, money), oracle.entry(last, loans, money));
            }
            case 20 -> {
                int k = in(-1, 20);
                same("judge(" + k + ")", debts.judge(k), oracle.judge(k));
            }
            default -> callOfImages();
        }
    }

    private void callOfImages() {
        int k = in(0, 3);
        switch (lots.nextInt(8)) {
            case 0 -> same("clear()", debts.clear(), oracle.clear());
            case 1, 2 -> same("on(" + k + ")", debts.on(k), oracle.on(k));
            case 3 -> {
                int seed = in(0, 1000000);
                same("seed(" + seed + ")", debts.seed(seed), oracle.seed(seed));
            }
            default -> same("image(" + k + ")", debts.image(k), oracle.image(k));
        }
    }

    private void callOfSums(int call) {
        switch (call) {
            case 22, 23 -> {
                int kind = in(0, 4);
                int k = in(-1, 4);
                same("round(" + kind + ", " + k + ")", debts.round(kind, k), oracle.round(kind, k));
            }
            case 24, 25 -> {
                int honest = in(0, 31);
                int cost = in(0, lots.nextBoolean() ? 20 : 200);
                same("words(" + honest + ", " + cost + ")", debts.words(honest, cost), oracle.words(honest, cost));
            }
            case 26 -> {
                int line = in(0, 100);
                int what = in(0, 1);
                same("purse(" + line + ", " + what + ")", debts.purse(line, what), oracle.purse(line, what));
            }
            case 27 -> {
                int d = in(0, 99999);
                int y = in(1, 20);
                int k = in(0, 19);
                same("part(" + d + ", " + y + ", " + k + ")", debts.part(d, y, k), oracle.part(d, y, k));
            }
            case 28, 29 -> {
                int d = in(0, 99999);
                int times = in(1, 20) * 100 + in(0, 19);
                int p = in(0, 16);
                int n = in(1, 40);
                same("shrunk(" + d + ", " + times + ", " + p + ", " + n + ")",
                    debts.shrunk(d, times, p, n), oracle.shrunk(d, times, p, n));
            }
            case 30 -> {
                int n = in(1, 12);
                int k = in(0, 12);
                same("cloudy(" + n + ", " + k + ")", debts.cloudy(n, k), oracle.cloudy(n, k));
            }
            case 31 -> {
                int n = in(1, 60);
                int c = in(0, 16);
                same("names(" + n + ", " + c + ")", debts.names(n, c), oracle.names(n, c));
            }
            default -> {
                int d = in(1, 9999);
                int g = in(0, 999);
                int r = in(0, 15);
                same("holds(" + d + ", " + g + ", " + r + ")", debts.holds(d, g, r), oracle.holds(d, g, r));
                same("greatest(" + g + ", " + r + ")", debts.greatest(g, r), oracle.greatest(g, r));
            }
        }
    }
}
