import java.nio.charset.StandardCharsets;
import java.util.Arrays;

/** What the tests share: a text is fed, an answer is compared, and the end of a test. */
final class Check {
    private int calls = 0;
    private int wrong = 0;
    private String sentence = "";

    /** The document's sentence that the answers from here on are about. */
    void about(String quoted) {
        sentence = quoted + " | ";
    }

    void same(String call, long got, long due) {
        calls++;
        if (got != due) {
            wrong++;
            if (wrong <= 50) {
                System.out.println(sentence + call + " answered " + got + ", due is " + due);
            }
        }
    }

    void yes(String call, boolean got) {
        same(call, got ? 1 : 0, 1);
    }

    void no(String call, boolean got) {
        same(call, got ? 1 : 0, 0);
    }

    boolean allRight() {
        return wrong == 0;
    }

    void finish() {
        System.out.println(calls + " answers, " + wrong + " wrong");
        if (wrong != 0) {
            System.exit(1);
        }
    }

    static void text(MoonDebts debts, byte[] bytes) {
        debts.end(0);
        byte[] padded = Arrays.copyOf(bytes, (bytes.length + 19) / 20 * 20);
        for (int i = 0; i < padded.length; i += 20) {
            debts.feed(four(padded, i), four(padded, i + 4), four(padded, i + 8), four(padded, i + 12), four(padded, i + 16));
        }
        debts.end(bytes.length);
    }

    static void text(MoonDebts debts, String text) {
        text(debts, text.getBytes(StandardCharsets.ISO_8859_1));
    }

    static MoonDebts landOf(String text) {
        MoonDebts debts = new MoonDebts();
        text(debts, text);
        if (debts.land() < 1) {
            throw new IllegalStateException("no land: " + text);
        }
        return debts;
    }

    /** So many LINES of SORTS (at most 26), with the NAMES a, b, .. */
    static String sorts(int many) {
        StringBuilder lines = new StringBuilder();
        for (int i = 0; i < many; i++) {
            lines.append("sort ").append((char) ('a' + i)).append(" 1 1 1 1 1 1;");
        }
        return lines.toString();
    }

    /** So many LINES of TURNS (at most 20), no couple twice, each for so much. */
    static String turns(int many, int cost) {
        StringBuilder lines = new StringBuilder();
        for (int i = 0; i < many; i++) {
            int from = i / 4;
            int to = i % 4 < from ? i % 4 : i % 4 + 1;
            lines.append("turn ").append(Oracle.KINDS.get(from)).append(' ').append(Oracle.KINDS.get(to));
            lines.append(' ').append(cost).append(';');
        }
        return lines.toString();
    }

    static Oracle oracleOf(String text) {
        Oracle oracle = new Oracle();
        oracle.tell(text);
        if (oracle.land() < 1) {
            throw new IllegalStateException("no land: " + text);
        }
        return oracle;
    }

    private static int four(byte[] bytes, int at) {
        return (bytes[at] & 255) << 24 | (bytes[at + 1] & 255) << 16 | (bytes[at + 2] & 255) << 8 | bytes[at + 3] & 255;
    }
}
