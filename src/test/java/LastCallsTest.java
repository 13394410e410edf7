import java.util.Arrays;

/** "An object is used for at most 512 calls after it has been made": the last of them are answered as the first. */
final class LastCallsTest {
    private static final int CALLS = 512;
    private static final Check CHECK = new Check();

    public static void main(String[] args) {
        CHECK.about("An object is used for at most 512 calls after it has been made");
        lastNight();
        loansOnTheLastNights();
        mostCoin();
        mostLost();
        manyLands();
        CHECK.finish();
    }

    private static int callsOfLand(String text) {
        return 3 + (text.length() + 19) / 20;
    }

    private static void lastNight() {
        String text = "moon 7 0;" + Check.sorts(1);
        MoonDebts x = Check.landOf(text);
        int night = 0;
        for (int call = callsOfLand(text) + 1; call < CALLS; call++) {
            night += 200;
            CHECK.same("go(200)", x.go(200), night);
        }
        CHECK.same("NIGHT", x.market(0), night);
        CHECK.yes("it is far", night > 100000);
    }

    private static void loansOnTheLastNights() {
        String text = "moon 7 0;strike 8 9;sort a 1 99 0 5 0 0;sort b 1 0 0 60 0 0;";
        MoonDebts x = Check.landOf(text);
        int call = callsOfLand(text);
        for (int night = 0; night < 88200; night += 200) {
            x.go(200);
            call++;
        }
        // 88200 is 1400 times 63: a ninth MOON was just now, the next is at 88263.
        CHECK.same("lend", x.lend(1, 0, 40, 10), 0);
        CHECK.same("when it is due", x.loan(0, 5), 88260);
        CHECK.same("NIGHT", x.go(10), 88210);
        CHECK.same("owed", x.loan(0, 4), 44);
        CHECK.same("lend", x.lend(1, 0, 20, 0), 1);
        CHECK.same("NIGHT", x.go(52), 88262);
        CHECK.same("owed on the night ahead", x.loan(1, 4), 20);
        CHECK.same("NIGHT", x.go(1), 88263);
        CHECK.same("owed", x.loan(1, 4), 10);
        CHECK.same("the first was paid", x.loan(0, 0), -1);
        CHECK.yes("calls: " + (call + 10), call + 10 <= CALLS);
    }

    private static void mostCoin() {
        // 9999 each time to a WORK that brings 99 of each: the sum of both heaps is what an int must hold.
        String text = "moon 30 0;strike 0 9;sort a 50 99 1 1 99 0;sort b 50 99 1 1 99 0;";
        MoonDebts x = Check.landOf(text);
        int call = callsOfLand(text);
        long sum = 9900;
        x.lend(1, 0, 4950, 0);
        x.go(1);
        sum += 4950 * 99;
        call += 2;
        while (call + 43 <= CALLS) {
            for (int i = 0; i < 40; i++) {
                CHECK.same("lend", x.lend(10, 0, 9999, 0), i);
            }
            x.go(1);
            call += 41;
            sum += 40L * 9999 * 99;
        }
        CHECK.same("all of it", (long) x.market(10) + x.market(11), sum);
        CHECK.yes("it is much: " + sum, sum > 400000000);
    }

    private static void mostLost() {
        // All that is owed, at the highest price, is struck each time.
        String text = "moon 5 0;sort a 50 99 1 6 99 0;sort b 50 99 1 6 99 0;";
        MoonDebts x = Check.landOf(text);
        int call = callsOfLand(text);
        x.lend(1, 0, 4950, 400);
        x.go(6);
        CHECK.same("LOST", x.market(3), 24750);
        CHECK.same("heap of b", x.market(11), 4950 + 4950 * 100);
        call += 4;
        long lost = 24750;
        while (call + 43 <= CALLS) {
            for (int i = 0; i < 40; i++) {
                x.lend(10, 0, 9999, 400);
            }
            x.go(6);
            lost += 40 * 49995;
            call += 41;
            if (x.market(11) < 40 * 9999) {
                break;
            }
            call++;
        }
        CHECK.same("LOST by b", x.market(21), lost - 24750);
        CHECK.same("LOST by all", x.market(3), lost);
    }

    private static void manyLands() {
        String[] texts = {"moon 5 0;" + Check.sorts(1), "moon 6 1;" + Check.sorts(6) + Check.turns(12, 1)};
        MoonDebts x = new MoonDebts();
        int call = 0;
        int[] due = new int[7];
        for (int i = 0; call + callsOfLand(texts[1]) + 7 <= CALLS; i++) {
            Check.text(x, texts[i % 2]);
            CHECK.same("land()", x.land(), i % 2 == 0 ? 1 : 6);
            call += callsOfLand(texts[i % 2]);
            due = i % 2 == 0 ? new int[] {1, 0, 5, 0, 16, 1, 0} : new int[] {6, 12, 6, 1, 16, 1, 0};
        }
        int[] got = new int[7];
        for (int what = 0; what < 7; what++) {
            got[what] = x.count(what);
        }
        CHECK.yes("the last LAND: " + Arrays.toString(got), Arrays.equals(got, due));
    }
}
