import java.util.Random;

/** Promise 11 once more: the BEST LAW, compared with the Oracle's, in LANDS where it often pays to strike. */
final class BestTest {
    private static final Check CHECK = new Check();

    public static void main(String[] args) {
        Random lots = new Random(11);
        int strikes = 0;
        int seldom = 0;
        for (int i = 0; i < 1000; i++) {
            String text = landText(lots);
            MoonDebts x = Check.landOf(text);
            Oracle oracle = Check.oracleOf(text);
            for (int what = 0; what <= 2; what++) {
                CHECK.same("best(" + what + ") of " + text, x.best(what), oracle.best(what));
            }
            strikes += x.best(0) > 0 ? 1 : 0;
            seldom += x.best(1) > 1 ? 1 : 0;
        }
        CHECK.yes("it often pays to strike: " + strikes, strikes > 100);
        CHECK.yes("and now and then not at each MOON: " + seldom, seldom > 5);
        CHECK.finish();
    }

    /** COIN is scarce and each MOST is a little above its LEAST PRICE without a law, so a law tells who goes ahead. */
    private static String landText(Random lots) {
        int nights = lots.nextBoolean() ? 5 + lots.nextInt(3) : 5 + lots.nextInt(26);
        int wait = lots.nextInt(51);
        StringBuilder text = new StringBuilder();
        text.append("moon ").append(nights).append(' ').append(lots.nextInt(16)).append(";wait ").append(wait);
        text.append(";sort r 1 ").append(1 + lots.nextInt(99)).append(" 0 1 0 0;");
        int sorts = 2 + lots.nextInt(4);
        for (int i = 0; i < sorts; i++) {
            int work = 1 + lots.nextInt(60);
            int most = Math.min(400, wait * work / 10 + lots.nextInt(40));
            int want = 1 + lots.nextInt(Math.min(99, most == 0 ? 99 : 9900 / most));
            text.append("sort ").append((char) ('a' + i)).append(' ').append(1 + lots.nextInt(3)).append(" 0 ").append(want);
            text.append(' ').append(work).append(' ').append(most * want / 100).append(' ');
            text.append(lots.nextBoolean() ? 16 : lots.nextInt(17)).append(';');
        }
        return text.toString();
    }
}
