import java.util.Arrays;

/** No call throws, whatever it is told, and what is refused changes nothing. */
final class WildTest {
    private static final int[] WILD = {Integer.MIN_VALUE, Integer.MIN_VALUE + 1, -1000000, -17, -2, -1, 0, 1, 2, 5, 6, 10, 16, 39, 40,
        99, 100, 500, 501, 1999, 2000, 9999, 100000, 1000001, 0x20202020, Integer.MAX_VALUE - 1, Integer.MAX_VALUE};
    private static final Check CHECK = new Check();

    public static void main(String[] args) {
        for (int a : WILD) {
            for (int b : WILD) {
                callAll(new MoonDebts(), a, b, 0);
                MoonDebts x = small();
                callAll(x, a, b, 1);
                callAll(x, b, a, 2);
            }
        }
        refusedChangesNothing();
        longestTexts();
        mostIsEarned();
        CHECK.finish();
    }

    private static MoonDebts small() {
        return Check.landOf("moon 5 3;strike 9 1;sort a 9 90 0 5 0 0;sort b 3 9 2 4 10 7;spare gift;turn loan gift 3;");
    }

    private static void callAll(MoonDebts x, int a, int b, int c) {
        x.lend(a, 0, b, c);
        x.lend(1, a, 5, b);
        x.go(a);
        x.market(a);
        x.loan(a, b);
        x.entry(a, b, 5000);
        x.entry(5, a, b);
        x.judge(a);
        x.sort(a, b);
        x.back(a, b, c);
        x.back(0, a, b);
        x.lent(a, b);
        x.brought(a);
        x.moon(a, b, c);
        x.moon(1, a, b);
        x.best(a);
        x.gains(a);
        x.holds(a, b, c);
        x.holds(1, a, b);
        x.greatest(a, b);
        x.names(a, b);
        x.round(a, b);
        x.words(a, b);
        x.purse(a, b);
        x.part(a, b, c);
        x.part(5, a, b);
        x.shrunk(a, b, c, 1);
        x.shrunk(5, 500, a, b);
        x.cloudy(a, b);
        x.image(a);
        x.on(b);
        x.seed(a);
        x.count(a);
        x.clear();
        x.feed(a, b, a, b, a);
        x.fault();
        x.land();
        x.end(a);
        CHECK.same("the object lives", x.count(9), -1);
    }

    /** All that can be seen of an object, but for its lots. */
    private static int[] seen(MoonDebts x) {
        int[] row = new int[100];
        int n = 0;
        for (int what = 0; what <= 8; what++) {
            row[n++] = x.count(what);
        }
        for (int what = 0; what <= 26; what++) {
            row[n++] = x.market(what);
        }
        for (int i = 0; i < 18; i++) {
            row[n++] = x.loan(i / 6, i % 6);
        }
        for (int k = -1; k < 4; k++) {
            row[n++] = x.judge(k);
        }
        row[n++] = x.fault();
        return row;
    }

    private static void refusedChangesNothing() {
        MoonDebts x = small();
        x.seed(7);
        x.lend(1, 0, 50, 10);
        x.lend(10, 1, 5, 0);
        x.go(2);
        x.entry(3, 1, 5000);
        x.feed(1, 2, 3, 4, 5);
        x.image(1);
        int[] ahead = seen(x);
        x.seed(-1);
        x.seed(1000001);
        x.lend(1, 0, 9999, 0);
        x.lend(0, 0, 1, 0);
        x.lend(1, 5, 1, 0);
        x.go(0);
        x.go(201);
        x.entry(2, 1, 5000);
        x.entry(4, 11, 5000);
        x.end(-1);
        x.end(21);
        x.land();
        x.image(3);
        x.on(0);
        x.on(2);
        CHECK.yes("as ahead", Arrays.equals(ahead, seen(x)));
        // The lots are seen by what comes of them: as on another object to which nothing wrong was said.
        MoonDebts y = small();
        y.seed(7);
        y.lend(1, 0, 50, 10);
        y.lend(10, 1, 5, 0);
        y.go(2);
        for (int i = 0; i < 8; i++) {
            x.lend(1, 0, 20, i);
            y.lend(1, 0, 20, i);
            x.go(3);
            y.go(3);
            CHECK.same("LOST", x.market(3), y.market(3));
            CHECK.same("owed", x.market(2), y.market(2));
        }
        CHECK.yes("on(1)", x.on(1));
    }

    private static void longestTexts() {
        char[] signs = {'a', '9', ';', ' ', '\n', 0, (char) 255, '-'};
        int[] due = {0, 0, 0, 500, 500, 0, 0, 0};
        for (int i = 0; i < signs.length; i++) {
            MoonDebts x = new MoonDebts();
            char[] all = new char[500];
            Arrays.fill(all, signs[i]);
            Check.text(x, new String(all));
            CHECK.same("bytes", x.count(8), 500);
            CHECK.same("fault of 500 times " + (int) signs[i], x.fault(), due[i]);
            String head = "moon 5 0;sort a 1 1 1 1 1 ";
            Check.text(x, head + new String(all, 0, 500 - head.length() - 2) + "1;");
            CHECK.same("land of 500 bytes", x.land(), signs[i] == ' ' || signs[i] == '\n' ? 1 : -1);
        }
    }

    /** The heaps that 512 calls can make stay far below where an int ends. */
    private static void mostIsEarned() {
        MoonDebts x = Check.landOf("moon 30 0;strike 0 9;sort a 50 99 1 1 99 0;sort b 50 99 1 1 99 0;");
        long sum = 9900;
        for (int i = 0; i < 100; i++) {
            int much = Math.min(9999, x.market(10));
            x.lend(1, 0, much, 400);
            x.go(1);
            sum += much * 99;
            CHECK.same("nothing is gone", x.market(10) + x.market(11), sum);
        }
    }
}
