import java.math.BigInteger;
import java.util.ArrayList;
import java.util.Arrays;
import java.util.Comparator;
import java.util.HashMap;
import java.util.HashSet;
import java.util.List;
import java.util.Map;
import java.util.Set;
import java.util.TreeMap;
import java.util.regex.Matcher;
import java.util.regex.Pattern;

/** The document once more, told slowly and with the whole library, to compare answers with. */
final class Oracle {
    static final List<String> KINDS = List.of("loan", "pledge", "sale", "gift", "purse");
    static final List<String> LINES = List.of("moon", "strike", "wait", "sort", "spare", "turn");
    private static final int[][] SORT_RANGE = {{1, 50}, {0, 99}, {0, 99}, {1, 60}, {0, 99}, {0, 16}};

    static final class World {
        int nights = -1;
        int clouds;
        int struck = 16;
        int every = 1;
        int wait;
        List<int[]> sorts = new ArrayList<>();
        Set<Integer> spared = new HashSet<>();
        List<int[]> turns = new ArrayList<>();
    }

    static final class Debt {
        int lender;
        int borrower;
        int kind;
        int much;
        int owed;
        int due;
        int entry;

        Debt copy() {
            Debt d = new Debt();
            d.lender = lender;
            d.borrower = borrower;
            d.kind = kind;
            d.much = much;
            d.owed = owed;
            d.due = due;
            d.entry = entry;
            return d;
        }
    }

    static final class Fair {
        int night;
        long x;
        int[] heaps;
        int[] lost;
        TreeMap<Integer, Debt> loans = new TreeMap<>();

        Fair copy() {
            Fair f = new Fair();
            f.night = night;
            f.x = x;
            f.heaps = heaps.clone();
            f.lost = lost.clone();
            for (Map.Entry<Integer, Debt> e : loans.entrySet()) {
                f.loans.put(e.getKey(), e.getValue().copy());
            }
            return f;
        }
    }

    private String text = "";
    private World world = null;
    private World read = null;
    private Fair fair = null;
    private final List<int[]> book = new ArrayList<>();
    private final Map<Integer, Fair> images = new HashMap<>();

    /** A text at once, in place of many calls of feed. */
    void tell(String whole) {
        text = whole;
    }

    int feed(int a, int b, int c, int d, int e) {
        if (text.length() > 480) {
            return -1;
        }
        StringBuilder more = new StringBuilder(text);
        for (int number : new int[] {a, b, c, d, e}) {
            for (int i = 3; i >= 0; i--) {
                more.append((char) (number >>> 8 * i & 255));
            }
        }
        text = more.toString();
        return text.length();
    }

    boolean end(int n) {
        if (n < 0 || n > text.length()) {
            return false;
        }
        text = text.substring(0, n);
        return true;
    }

    /** Tokens as texts with their places; what begins no token is a token "?". */
    private static void tokens(String text, List<String> words, List<Integer> places) {
        Matcher m = Pattern.compile("[a-z]+|[0-9]+|;|[ \n]+|(?s:.)").matcher(text);
        while (m.find()) {
            String word = m.group();
            if (word.charAt(0) != ' ' && word.charAt(0) != '\n') {
                words.add(word.matches("[a-z]+|[0-9]+|;") ? word : "?");
                places.add(m.start());
            }
        }
    }

    private static boolean number(String word, int least, int most) {
        if (!word.matches("[0-9]+")) {
            return false;
        }
        BigInteger n = new BigInteger(word);
        return n.compareTo(BigInteger.valueOf(least)) >= 0 && n.compareTo(BigInteger.valueOf(most)) <= 0;
    }

    int fault() {
        List<String> words = new ArrayList<>();
        List<Integer> places = new ArrayList<>();
        tokens(text, words, places);
        read = new World();
        Set<String> told = new HashSet<>();
        Set<String> names = new HashSet<>();
        Set<String> couples = new HashSet<>();
        List<String> line = new ArrayList<>();
        for (int i = 0; i < words.size(); i++) {
            String word = words.get(i);
            line.add(word);
            if (!canStand(line, told, names, couples)) {
                return places.get(i);
            }
            if (word.equals(";")) {
                keep(line, told, names, couples);
                line.clear();
            }
        }
        if (!line.isEmpty() || read.nights < 0 || read.sorts.isEmpty()) {
            return text.length();
        }
        return -1;
    }

    private boolean canStand(List<String> line, Set<String> told, Set<String> names, Set<String> couples) {
        int at = line.size() - 1;
        String word = line.get(at);
        String first = line.get(0);
        if (at == 0) {
            boolean full = first.equals("sort") && read.sorts.size() == 6 || first.equals("turn") && read.turns.size() == 12;
            return LINES.contains(first) && !told.contains(first) && !full;
        }
        int length = switch (first) {
            case "moon", "strike" -> 3;
            case "wait", "spare" -> 2;
            case "sort" -> 8;
            default -> 4;
        };
        if (at == length) {
            return word.equals(";");
        }
        switch (first) {
            case "moon":
                return at == 1 ? number(word, 5, 30) : number(word, 0, 15);
            case "strike":
                return at == 1 ? number(word, 0, 16) : number(word, 1, 9);
            case "wait":
                return number(word, 0, 50);
            case "spare":
                return KINDS.contains(word) && !read.spared.contains(KINDS.indexOf(word));
            case "sort":
                if (at == 1) {
                    return word.matches("[a-z]{1,8}") && !KINDS.contains(word) && !LINES.contains(word) && !names.contains(word);
                }
                return number(word, SORT_RANGE[at - 2][0], SORT_RANGE[at - 2][1]);
            default:
                if (at == 1) {
                    return KINDS.contains(word);
                }
                if (at == 2) {
                    return KINDS.contains(word) && !word.equals(line.get(1)) && !couples.contains(line.get(1) + " " + word);
                }
                return number(word, 0, 99);
        }
    }

    private void keep(List<String> line, Set<String> told, Set<String> names, Set<String> couples) {
        int[] n = new int[line.size()];
        for (int i = 0; i < n.length; i++) {
            n[i] = line.get(i).matches("[0-9]+") ? new BigInteger(line.get(i)).intValueExact() : -1;
        }
        switch (line.get(0)) {
            case "moon":
                told.add("moon");
                read.nights = n[1];
                read.clouds = n[2];
                break;
            case "strike":
                told.add("strike");
                read.struck = n[1];
                read.every = n[2];
                break;
            case "wait":
                told.add("wait");
                read.wait = n[1];
                break;
            case "spare":
                read.spared.add(KINDS.indexOf(line.get(1)));
                break;
            case "sort":
                names.add(line.get(1));
                read.sorts.add(Arrays.copyOfRange(n, 2, 8));
                break;
            default:
                couples.add(line.get(1) + " " + line.get(2));
                read.turns.add(new int[] {KINDS.indexOf(line.get(1)), KINDS.indexOf(line.get(2)), n[3]});
                break;
        }
    }

    private Fair opening(World w) {
        Fair f = new Fair();
        f.heaps = new int[w.sorts.size()];
        f.lost = new int[w.sorts.size()];
        for (int i = 0; i < f.heaps.length; i++) {
            f.heaps[i] = w.sorts.get(i)[0] * w.sorts.get(i)[1];
        }
        return f;
    }

    int land() {
        if (fault() != -1) {
            return -1;
        }
        world = read;
        text = "";
        fair = opening(world);
        book.clear();
        images.clear();
        return world.sorts.size();
    }

    private boolean hasSort(int sort) {
        return world != null && sort >= 0 && sort < world.sorts.size();
    }

    int sort(int sort, int what) {
        return hasSort(sort) && what >= 0 && what <= 5 ? world.sorts.get(sort)[what] : -1;
    }

    private int returned(int sort, int night, int s, int e) {
        int[] p = world.sorts.get(sort);
        int b = 1000;
        for (int k = 1; k * world.nights < night + p[3]; k++) {
            if (k * world.nights > night && k % e == 0) {
                b = b * (256 - s * (16 - world.clouds)) / 256;
            }
        }
        return b + (1000 - b) * p[5] / 16;
    }

    private int cheapest(int sort, int b) {
        int[] p = world.sorts.get(sort);
        for (int price = 0; price <= 400; price++) {
            if ((100 + price) * b / 1000 >= 100 + world.wait * p[3] / 10) {
                return price;
            }
        }
        return -1;
    }

    private int dearest(int sort) {
        int[] p = world.sorts.get(sort);
        return p[2] == 0 ? -1 : Math.min(400, p[4] * 100 / p[2]);
    }

    int back(int sort, int night, int what) {
        if (!hasSort(sort) || night < 0 || night > 500 || what < 0 || what > 2) {
            return -1;
        }
        int b = returned(sort, night, world.struck, world.every);
        return what == 0 ? b : what == 1 ? cheapest(sort, b) : dearest(sort);
    }

    private int[] shares(int night, int s, int e) {
        int[] got = new int[world.sorts.size()];
        List<int[]> row = new ArrayList<>();
        int coin = 0;
        for (int i = 0; i < got.length; i++) {
            coin += world.sorts.get(i)[0] * world.sorts.get(i)[1];
            int least = cheapest(i, returned(i, night, s, e));
            int most = dearest(i);
            if (least >= 0 && most >= 0 && least <= most) {
                row.add(new int[] {i, most - least});
            }
        }
        row.sort(Comparator.comparingInt((int[] r) -> -r[1]).thenComparingInt(r -> r[0]));
        for (int[] r : row) {
            int take = Math.min(coin, world.sorts.get(r[0])[0] * world.sorts.get(r[0])[2]);
            got[r[0]] = take;
            coin -= take;
        }
        return got;
    }

    private int brings(int[] got) {
        int sum = 0;
        for (int i = 0; i < got.length; i++) {
            int[] p = world.sorts.get(i);
            sum += p[2] == 0 ? 0 : got[i] * p[4] / p[2];
        }
        return sum;
    }

    int lent(int sort, int night) {
        if (world == null || night < 0 || night > 500 || sort != -1 && !hasSort(sort)) {
            return -1;
        }
        int[] got = shares(night, world.struck, world.every);
        return sort == -1 ? Arrays.stream(got).sum() : got[sort];
    }

    int brought(int night) {
        return world == null || night < 0 || night > 500 ? -1 : brings(shares(night, world.struck, world.every));
    }

    int moon(int s, int e, int what) {
        if (world == null || s < 0 || s > 16 || e < 1 || e > 9 || what < 0 || what > 1) {
            return -1;
        }
        int sum = 0;
        for (int t = 0; t < world.nights; t++) {
            int[] got = shares(t, s, e);
            sum += what == 0 ? Arrays.stream(got).sum() : brings(got);
        }
        return sum;
    }

    int best(int what) {
        if (world == null || what < 0 || what > 2) {
            return -1;
        }
        int[] best = {0, 1, moon(0, 1, 1)};
        for (int s = 0; s <= 16; s++) {
            for (int e = 1; e <= 9; e++) {
                int y = moon(s, e, 1);
                if (y > best[2]) {
                    best = new int[] {s, e, y};
                }
            }
        }
        return best[what];
    }

    int gains(int sort) {
        if (!hasSort(sort)) {
            return -999999;
        }
        int sum = 0;
        for (int t = 0; t < world.nights; t++) {
            sum += shares(t, world.struck, world.every)[sort] - shares(t, 0, 1)[sort];
        }
        return sum;
    }

    boolean seed(int seed) {
        if (seed < 0 || seed > 1000000) {
            return false;
        }
        if (fair != null) {
            fair.x = seed;
        }
        return true;
    }

    private boolean tellable(int who, int kind, int much, int price) {
        return who >= 0 && hasSort(who / 10) && hasSort(who % 10) && who / 10 != who % 10 && kind >= 0 && kind <= 4
            && much >= 1 && much <= 9999 && price >= 0 && price <= 400;
    }

    private int make(Fair f, int who, int kind, int much, int price) {
        if (f.heaps[who / 10] < much || f.loans.size() == 40) {
            return -1;
        }
        int number = 0;
        while (f.loans.containsKey(number)) {
            number++;
        }
        Debt d = new Debt();
        d.lender = who / 10;
        d.borrower = who % 10;
        d.kind = kind;
        d.much = much;
        d.owed = much + much * price / 100;
        d.due = f.night + world.sorts.get(d.borrower)[3];
        f.heaps[d.lender] -= much;
        f.loans.put(number, d);
        return number;
    }

    int lend(int who, int kind, int much, int price) {
        return tellable(who, kind, much, price) ? make(fair, who, kind, much, price) : -1;
    }

    private static int lot(Fair f) {
        f.x = (f.x * 1103515245L + 12345L) % (1L << 31);
        return (int) (f.x / 256 % 16);
    }

    /** A night goes by; with a row for what is struck of entries it is judged, without lots. */
    private void night(Fair f, int[] struckOf) {
        f.night++;
        for (int number : new ArrayList<>(f.loans.keySet())) {
            Debt d = f.loans.get(number);
            if (d.due == f.night) {
                int[] p = world.sorts.get(d.borrower);
                f.heaps[d.borrower] += d.much + (p[2] == 0 ? 0 : d.much * p[4] / p[2]);
                int pays = Math.min(f.heaps[d.borrower], d.owed);
                f.heaps[d.borrower] -= pays;
                f.heaps[d.lender] += pays;
                f.loans.remove(number);
            }
        }
        if (f.night % world.nights != 0 || f.night / world.nights % world.every != 0) {
            return;
        }
        if (struckOf == null && lot(f) < world.clouds) {
            return;
        }
        for (Debt d : f.loans.values()) {
            if (!world.spared.contains(d.kind) && (struckOf != null || lot(f) >= world.sorts.get(d.borrower)[5])) {
                int less = d.owed * world.struck / 16;
                d.owed -= less;
                f.lost[d.lender] += less;
                if (struckOf != null) {
                    struckOf[d.entry] += less;
                }
            }
        }
    }

    int go(int n) {
        if (world == null || n < 1 || n > 200) {
            return -1;
        }
        for (int i = 0; i < n; i++) {
            night(fair, null);
        }
        return fair.night;
    }

    int market(int what) {
        if (world == null) {
            return -1;
        }
        if (what >= 10 && what <= 15 && hasSort(what - 10)) {
            return fair.heaps[what - 10];
        }
        if (what >= 20 && what <= 25 && hasSort(what - 20)) {
            return fair.lost[what - 20];
        }
        return switch (what) {
            case 0 -> fair.night;
            case 1 -> fair.loans.size();
            case 2 -> fair.loans.values().stream().mapToInt(d -> d.owed).sum();
            case 3 -> Arrays.stream(fair.lost).sum();
            default -> -1;
        };
    }

    int loan(int loan, int what) {
        if (fair == null || !fair.loans.containsKey(loan)) {
            return -1;
        }
        Debt d = fair.loans.get(loan);
        return switch (what) {
            case 0 -> d.lender;
            case 1 -> d.borrower;
            case 2 -> d.kind;
            case 3 -> d.much;
            case 4 -> d.owed;
            case 5 -> d.due;
            default -> -1;
        };
    }

    int entry(int night, int loans, int money) {
        if (night < 0 || night > 500 || loans < 0 || money < 0 || book.size() == 20) {
            return -1;
        }
        if (!book.isEmpty() && book.get(book.size() - 1)[0] > night) {
            return -1;
        }
        if (!tellable(loans % 100, loans / 100, money / 1000, money % 1000)) {
            return -1;
        }
        book.add(new int[] {night, loans % 100, loans / 100, money / 1000, money % 1000});
        return book.size();
    }

    int clear() {
        int had = book.size();
        book.clear();
        return had;
    }

    int judge(int k) {
        if (k < -1 || k >= book.size()) {
            return -1;
        }
        Fair f = opening(world == null ? new World() : world);
        int[] struckOf = new int[book.size()];
        int bad = -1;
        for (int i = 0; i < book.size() && bad == -1; i++) {
            int[] e = book.get(i);
            while (f.night < e[0]) {
                night(f, struckOf);
            }
            int number = make(f, e[1], e[2], e[3], e[4]);
            if (number == -1) {
                bad = i;
            } else {
                f.loans.get(number).entry = i;
            }
        }
        return k == -1 ? bad : struckOf[k];
    }

    int holds(int d, int g, int r) {
        if (d < 1 || d > 9999 || g < 0 || g > 999 || r < 0 || r > 15) {
            return -1;
        }
        return g * r >= d * (16 - r) ? 1 : 0;
    }

    int greatest(int g, int r) {
        if (g < 0 || g > 999 || r < 0 || r > 15) {
            return -1;
        }
        int d = 0;
        while (d < 99999 && g * r >= (d + 1) * (16 - r)) {
            d++;
        }
        return d;
    }

    int names(int n, int c) {
        if (n < 1 || n > 60 || c < 0 || c > 16) {
            return -1;
        }
        for (int m = 1; m <= n && m <= 12; m++) {
            BigInteger all = BigInteger.valueOf(16).pow(m);
            BigInteger seen = all.subtract(BigInteger.valueOf(16 - c).pow(m));
            if (seen.multiply(BigInteger.valueOf(16)).compareTo(all.multiply(BigInteger.valueOf(12))) >= 0) {
                return m;
            }
        }
        return -1;
    }

    private int costOf(List<Integer> way) {
        return way.stream().mapToInt(t -> world.turns.get(t)[2]).sum();
    }

    private boolean better(List<Integer> a, List<Integer> b) {
        if (b == null || costOf(a) != costOf(b)) {
            return b == null || costOf(a) < costOf(b);
        }
        if (a.size() != b.size()) {
            return a.size() < b.size();
        }
        for (int i = 0; i < a.size(); i++) {
            if (!a.get(i).equals(b.get(i))) {
                return a.get(i) < b.get(i);
            }
        }
        return false;
    }

    /** Every row of at most four TURNS is looked at. */
    private List<Integer> way(int kind, Set<Integer> spared, List<Integer> sofar, List<Integer> best) {
        if (spared.contains(kind)) {
            return better(sofar, best) ? new ArrayList<>(sofar) : best;
        }
        List<Integer> found = best;
        if (sofar.size() < 4) {
            for (int i = 0; i < world.turns.size(); i++) {
                if (world.turns.get(i)[0] == kind) {
                    sofar.add(i);
                    found = way(world.turns.get(i)[1], spared, sofar, found);
                    sofar.remove(sofar.size() - 1);
                }
            }
        }
        return found;
    }

    int round(int kind, int k) {
        if (world == null || kind < 0 || kind > 4 || k < -1) {
            return -1;
        }
        List<Integer> way = way(kind, world.spared, new ArrayList<>(), null);
        if (way == null) {
            return -1;
        }
        return k == -1 ? costOf(way) : k < way.size() ? way.get(k) : -1;
    }

    private boolean allStopped(Set<Integer> spared, int cost) {
        for (int kind = 0; kind < 5; kind++) {
            List<Integer> way = spared.contains(kind) ? null : way(kind, spared, new ArrayList<>(), null);
            if (way != null && costOf(way) <= cost) {
                return false;
            }
        }
        return true;
    }

    int words(int honest, int cost) {
        if (world == null || honest < 0 || honest > 31 || cost < 0 || cost > 2000) {
            return -1;
        }
        for (int many = 0; many <= 5; many++) {
            for (int bits = 0; bits < 32; bits++) {
                Set<Integer> spared = new HashSet<>(world.spared);
                boolean can = Integer.bitCount(bits) == many && (bits & honest) == 0;
                for (int kind = 0; kind < 5; kind++) {
                    if ((bits >> kind & 1) == 1) {
                        can &= spared.remove(kind);
                    }
                }
                if (can && allStopped(spared, cost)) {
                    return bits;
                }
            }
        }
        return -1;
    }

    int purse(int line, int what) {
        if (world == null || line < 0 || line > 100 || what < 0 || what > 1) {
            return -1;
        }
        int sum = 0;
        for (int i = 0; i < world.sorts.size(); i++) {
            int[] p = world.sorts.get(i);
            if (p[1] < line && p[2] > p[1]) {
                int need = p[0] * (p[2] - p[1]);
                sum += what == 0 ? need : need * returned(i, world.nights - 1, world.struck, world.every) / 1000;
            }
        }
        return sum;
    }

    int part(int d, int y, int k) {
        if (d < 0 || d > 99999 || y < 1 || y > 20 || k < 0 || k >= y) {
            return -1;
        }
        return d * (y - k) / y;
    }

    int shrunk(int d, int times, int p, int n) {
        if (d < 0 || d > 99999 || times < 0 || p < 0 || p > 16 || n < 1 || n > 40 || part(d, times / 100, times % 100) == -1) {
            return -1;
        }
        int y = times / 100;
        int left = y - times % 100;
        int owed = d;
        for (int i = 0; i < n && i < left; i++) {
            owed -= part(owed, y, y - left + i) * p / 16;
        }
        return n >= left ? 0 : owed;
    }

    int cloudy(int n, int k) {
        if (world == null || n < 1 || n > 12 || k < 0 || k > n) {
            return -1;
        }
        // Chances by one moon more each time, as whole numbers of 16 to n.
        BigInteger[] chance = new BigInteger[n + 1];
        Arrays.fill(chance, BigInteger.ZERO);
        chance[0] = BigInteger.ONE;
        for (int i = 1; i <= n; i++) {
            for (int j = i; j >= 0; j--) {
                BigInteger stays = chance[j].multiply(BigInteger.valueOf(16 - world.clouds));
                BigInteger comes = j == 0 ? BigInteger.ZERO : chance[j - 1].multiply(BigInteger.valueOf(world.clouds));
                chance[j] = stays.add(comes);
            }
        }
        BigInteger sum = BigInteger.ZERO;
        for (int j = k; j <= n; j++) {
            sum = sum.add(chance[j]);
        }
        return sum.multiply(BigInteger.valueOf(1000)).divide(BigInteger.valueOf(16).pow(n)).intValueExact();
    }

    boolean image(int k) {
        if (world == null || k < 0 || k > 2) {
            return false;
        }
        images.put(k, fair.copy());
        return true;
    }

    boolean on(int k) {
        if (!images.containsKey(k)) {
            return false;
        }
        fair = images.get(k).copy();
        return true;
    }

    int count(int what) {
        if (what == 7) {
            return book.size();
        }
        if (what == 8) {
            return text.length();
        }
        if (what < 0 || what > 8) {
            return -1;
        }
        if (world == null) {
            return 0;
        }
        return switch (what) {
            case 0 -> world.sorts.size();
            case 1 -> world.turns.size();
            case 2 -> world.nights;
            case 3 -> world.clouds;
            case 4 -> world.struck;
            case 5 -> world.every;
            default -> world.spared.stream().mapToInt(kind -> 1 << kind).sum();
        };
    }
}
