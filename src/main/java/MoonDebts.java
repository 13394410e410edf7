import java.util.Arrays;

/** Debts that die with the moon: a land told in a text, what is lent in it, and its market. */
public final class MoonDebts {
    public static final int NONE = -1;

    private static final int MOST_BYTES = 500;
    private static final int BYTES_OF_FEED = 20;
    private static final int MOST_SORTS = 6;
    private static final int MOST_TURNS = 12;
    private static final int KINDS = 5;
    private static final int MOST_LOANS = 40;
    private static final int MOST_ENTRIES = 20;
    private static final int IMAGES = 3;
    private static final int LAST_NIGHT = 500;
    private static final int MOST_NIGHTS_OF_GO = 200;
    private static final int SIXTEEN = 16;
    private static final int MOST_EVERY = 9;
    private static final int MOST_MUCH = 9999;
    private static final int MOST_PRICE = 400;
    private static final int WHOLE = 1000;
    private static final int MOST_SEED = 1000000;
    private static final int NO_GAIN = -999999;
    private static final int LOWEST_31_BITS = 0x7fffffff;

    private final Text text;
    private final Reader reader;
    private final Sowing sowing;
    private final Market market;
    private final Book book;
    private final Ways ways;
    private final Market[] images;
    private final boolean[] imageKept;
    // The reader fills the draft, so that a text with a FAULT leaves the LAND as it was.
    private Land land;
    private Land draft;
    private boolean landed;

    public MoonDebts() {
        text = new Text();
        sowing = new Sowing();
        market = new Market();
        book = new Book();
        ways = new Ways();
        images = new Market[IMAGES];
        for (int i = 0; i < IMAGES; i++) {
            images[i] = new Market();
        }
        imageKept = new boolean[IMAGES];
        land = new Land();
        draft = new Land();
        reader = new Reader(text, draft);
        landed = false;
    }

    public int feed(int a, int b, int c, int d, int e) {
        if (text.length + BYTES_OF_FEED > MOST_BYTES) {
            return NONE;
        }
        text.append(a);
        text.append(b);
        text.append(c);
        text.append(d);
        text.append(e);
        return text.length;
    }

    public boolean end(int n) {
        if (n < 0 || n > text.length) {
            return false;
        }
        text.length = n;
        return true;
    }

    public int fault() {
        return reader.read(draft);
    }

    public int land() {
        if (reader.read(draft) != NONE) {
            return NONE;
        }
        Land old = land;
        land = draft;
        draft = old;
        landed = true;
        text.length = 0;
        market.begin(land);
        market.x = 0;
        book.entries = 0;
        sowing.forgetBest();
        for (int i = 0; i < IMAGES; i++) {
            imageKept[i] = false;
        }
        return land.sorts;
    }

    public int sort(int sort, int what) {
        return isSort(sort) ? land.numberOf(sort, what) : NONE;
    }

    public int back(int sort, int night, int what) {
        if (!isSort(sort) || !isNight(night)) {
            return NONE;
        }
        int back = Sowing.backOf(land, sort, night, land.struck, land.every);
        switch (what) {
            case 0:
                return back;
            case 1:
                return Sowing.leastPrice(land, sort, back);
            case 2:
                return Sowing.mostPrice(land, sort);
            default:
                return NONE;
        }
    }

    public int lent(int sort, int night) {
        if (!landed || !isNight(night) || (sort != NONE && !isSort(sort))) {
            return NONE;
        }
        sowing.shareNight(land, night, land.struck, land.every);
        return sort == NONE ? sowing.sownTonight(land) : sowing.taken[sort];
    }

    public int brought(int night) {
        if (!landed || !isNight(night)) {
            return NONE;
        }
        sowing.shareNight(land, night, land.struck, land.every);
        return sowing.yieldTonight(land);
    }

    public int moon(int s, int e, int what) {
        if (!landed || !isIn(s, 0, SIXTEEN) || !isIn(e, 1, MOST_EVERY) || !isIn(what, 0, 1)) {
            return NONE;
        }
        sowing.shareMoon(land, s, e);
        return what == 0 ? sowing.sownInMoon : sowing.yieldInMoon;
    }

    public int best(int what) {
        if (!landed || !isIn(what, 0, 2)) {
            return NONE;
        }
        sowing.seekBest(land);
        if (what == 0) {
            return sowing.bestStruck;
        }
        return what == 1 ? sowing.bestEvery : sowing.bestYield;
    }

    public int gains(int sort) {
        if (!isSort(sort)) {
            return NO_GAIN;
        }
        sowing.shareMoon(land, land.struck, land.every);
        int takes = sowing.takenInMoon[sort];
        sowing.shareMoon(land, 0, land.every);
        return takes - sowing.takenInMoon[sort];
    }

    public boolean seed(int seed) {
        if (!isIn(seed, 0, MOST_SEED)) {
            return false;
        }
        market.x = seed;
        return true;
    }

    public int lend(int who, int kind, int much, int price) {
        if (!canBeLoan(who, kind, much, price)) {
            return NONE;
        }
        return market.makeLoan(land, who, kind, much, price);
    }

    public int go(int n) {
        if (!landed || !isIn(n, 1, MOST_NIGHTS_OF_GO)) {
            return NONE;
        }
        for (int i = 0; i < n; i++) {
            market.passNight(land);
            if (land.isStruckAt(market.night)) {
                market.strikeByLots(land);
            }
        }
        return market.night;
    }

    public int market(int what) {
        if (!landed) {
            return NONE;
        }
        if (what >= 20) {
            return isSort(what - 20) ? market.lost[what - 20] : NONE;
        }
        if (what >= 10) {
            return isSort(what - 10) ? market.heap[what - 10] : NONE;
        }
        switch (what) {
            case 0:
                return market.night;
            case 1:
                return market.loansOwed();
            case 2:
                return market.allOwed();
            case 3:
                return market.allLost();
            default:
                return NONE;
        }
    }

    public int loan(int loan, int what) {
        return market.isOwed(loan) ? market.numberOf(loan, what) : NONE;
    }

    public int entry(int night, int loans, int money) {
        if (!isNight(night) || loans < 0 || money < 0 || book.entries >= MOST_ENTRIES) {
            return NONE;
        }
        if (book.entries > 0 && night < book.night[book.entries - 1]) {
            return NONE;
        }
        if (!canBeLoan(loans % 100, loans / 100, money / 1000, money % 1000)) {
            return NONE;
        }
        book.append(night, loans, money);
        return book.entries;
    }

    public int clear() {
        int had = book.entries;
        book.entries = 0;
        return had;
    }

    public int judge(int k) {
        if (!landed || k < NONE || k >= book.entries) {
            return NONE;
        }
        int firstBad = book.judgeAll(land);
        return k == NONE ? firstBad : book.struck[k];
    }

    public int holds(int debt, int gain, int worth) {
        if (!isIn(debt, 1, MOST_MUCH) || !isIn(gain, 0, 999) || !isIn(worth, 0, 15)) {
            return NONE;
        }
        return gain * worth >= debt * (SIXTEEN - worth) ? 1 : 0;
    }

    public int greatest(int gain, int worth) {
        if (!isIn(gain, 0, 999) || !isIn(worth, 0, 15)) {
            return NONE;
        }
        return gain * worth / (SIXTEEN - worth);
    }

    public int names(int n, int c) {
        if (!isIn(n, 1, 60) || !isIn(c, 0, SIXTEEN)) {
            return NONE;
        }
        int most = Math.min(n, 12);
        long all = 1;
        long unseen = 1;
        for (int m = 1; m <= most; m++) {
            all *= SIXTEEN;
            unseen *= SIXTEEN - c;
            if ((all - unseen) * SIXTEEN >= all * 12) {
                return m;
            }
        }
        return NONE;
    }

    public int round(int kind, int k) {
        if (!landed || !isIn(kind, 0, KINDS - 1) || k < NONE) {
            return NONE;
        }
        ways.measure(land, land.spared);
        return k == NONE ? ways.cost[kind] : ways.turnAt(land, kind, k);
    }

    public int words(int honest, int cost) {
        if (!landed || !isIn(honest, 0, 31) || !isIn(cost, 0, 2000)) {
            return NONE;
        }
        return ways.fewestWords(land, honest, cost);
    }

    public int purse(int line, int what) {
        if (!landed || !isIn(line, 0, 100) || !isIn(what, 0, 1)) {
            return NONE;
        }
        int sum = 0;
        for (int i = 0; i < land.sorts; i++) {
            if (land.coin[i] < line) {
                int need = land.needOf(i);
                sum += what == 0 ? need : need * lastNightBack(i) / WHOLE;
            }
        }
        return sum;
    }

    public int part(int d, int y, int k) {
        if (!isIn(d, 0, 99999) || !isIn(y, 1, 20) || !isIn(k, 0, y - 1)) {
            return NONE;
        }
        return asked(d, y, k);
    }

    public int shrunk(int d, int times, int p, int n) {
        if (!isIn(d, 0, 99999) || times < 0 || !isIn(p, 0, SIXTEEN) || !isIn(n, 1, 40)) {
            return NONE;
        }
        int y = times / 100;
        int k = times % 100;
        if (!isIn(y, 1, 20) || k >= y) {
            return NONE;
        }
        int owed = d;
        for (int i = 0; i < n; i++) {
            owed -= asked(owed, y, k) * p / SIXTEEN;
            k++;
            if (k == y) {
                owed = 0;
                k = 0;
            }
        }
        return owed;
    }

    public int cloudy(int n, int k) {
        if (!landed || !isIn(n, 1, 12) || !isIn(k, 0, n)) {
            return NONE;
        }
        long hidden = 0;
        for (int j = k; j <= n; j++) {
            hidden += choices(n, j) * power(land.clouds, j) * power(SIXTEEN - land.clouds, n - j);
        }
        // A shift is a division by 16 to n here, and 16 to 12 times 1000 is within a long.
        return (int) (hidden * WHOLE >> 4 * n);
    }

    public boolean image(int k) {
        if (!landed || !isIn(k, 0, IMAGES - 1)) {
            return false;
        }
        images[k].copyFrom(market);
        imageKept[k] = true;
        return true;
    }

    public boolean on(int k) {
        if (!isIn(k, 0, IMAGES - 1) || !imageKept[k]) {
            return false;
        }
        market.copyFrom(images[k]);
        return true;
    }

    public int count(int what) {
        if (what == 7) {
            return book.entries;
        }
        if (what == 8) {
            return text.length;
        }
        if (!isIn(what, 0, 6)) {
            return NONE;
        }
        return landed ? land.countOf(what) : 0;
    }

    private static boolean isIn(int number, int least, int most) {
        return number >= least && number <= most;
    }

    private static boolean isNight(int night) {
        return isIn(night, 0, LAST_NIGHT);
    }

    private boolean isSort(int sort) {
        return landed && land.hasSort(sort);
    }

    /** Whether a LOAN can be told so; that the lender's heap has so much is not asked here. */
    private boolean canBeLoan(int who, int kind, int much, int price) {
        if (who < 0 || !isSort(who / 10) || !isSort(who % 10) || who / 10 == who % 10) {
            return false;
        }
        return isIn(kind, 0, KINDS - 1) && isIn(much, 1, MOST_MUCH) && isIn(price, 0, MOST_PRICE);
    }

    private int lastNightBack(int sort) {
        return Sowing.backOf(land, sort, land.nights - 1, land.struck, land.every);
    }

    private static int asked(int debt, int years, int year) {
        return years < 1 ? 0 : debt * (years - year) / years;
    }

    private static long power(int base, int times) {
        long product = 1;
        for (int i = 0; i < times; i++) {
            product *= base;
        }
        return product;
    }

    private static long choices(int n, int k) {
        long ways = 1;
        for (int i = 1; i <= k; i++) {
            ways = ways * (n - k + i) / i;
        }
        return ways;
    }

    /** The bytes that were fed. */
    private static final class Text {
        final byte[] bytes = new byte[MOST_BYTES];
        int length = 0;

        /** The caller sees to it that four bytes have room. */
        void append(int number) {
            for (int shift = 24; shift >= 0; shift -= 8) {
                if (length < MOST_BYTES) {
                    bytes[length] = (byte) (number >> shift);
                    length++;
                }
            }
        }
    }

    /** What a text tells. */
    private static final class Land {
        int nights = 0;
        int clouds = 0;
        int struck = 0;
        int every = 0;
        int wait = 0;
        int sorts = 0;
        final int[] many = new int[MOST_SORTS];
        final int[] coin = new int[MOST_SORTS];
        final int[] want = new int[MOST_SORTS];
        final int[] work = new int[MOST_SORTS];
        final int[] gain = new int[MOST_SORTS];
        final int[] word = new int[MOST_SORTS];
        int spared = 0;
        int turns = 0;
        final int[] turnFrom = new int[MOST_TURNS];
        final int[] turnTo = new int[MOST_TURNS];
        final int[] turnCost = new int[MOST_TURNS];

        /** Nothing is told yet; what need not be told is as it is without. */
        void empty() {
            nights = 0;
            clouds = 0;
            struck = SIXTEEN;
            every = 1;
            wait = 0;
            sorts = 0;
            spared = 0;
            turns = 0;
        }

        void addSort(int[] told) {
            if (sorts < MOST_SORTS && told.length >= 6) {
                many[sorts] = told[0];
                coin[sorts] = told[1];
                want[sorts] = told[2];
                work[sorts] = told[3];
                gain[sorts] = told[4];
                word[sorts] = told[5];
                sorts++;
            }
        }

        void addTurn(int from, int to, int cost) {
            if (turns < MOST_TURNS) {
                turnFrom[turns] = from;
                turnTo[turns] = to;
                turnCost[turns] = cost;
                turns++;
            }
        }

        boolean hasSort(int sort) {
            return sort >= 0 && sort < sorts;
        }

        boolean hasTurn(int from, int to) {
            for (int i = 0; i < turns; i++) {
                if (turnFrom[i] == from && turnTo[i] == to) {
                    return true;
                }
            }
            return false;
        }

        boolean isSpared(int kind) {
            return (spared >> kind & 1) == 1;
        }

        boolean isStruckAt(int night) {
            int gap = nights * every;
            return gap > 0 && night > 0 && night % gap == 0;
        }

        int numberOf(int sort, int what) {
            switch (what) {
                case 0:
                    return many[sort];
                case 1:
                    return coin[sort];
                case 2:
                    return want[sort];
                case 3:
                    return work[sort];
                case 4:
                    return gain[sort];
                case 5:
                    return word[sort];
                default:
                    return NONE;
            }
        }

        int countOf(int what) {
            switch (what) {
                case 0:
                    return sorts;
                case 1:
                    return turns;
                case 2:
                    return nights;
                case 3:
                    return clouds;
                case 4:
                    return struck;
                case 5:
                    return every;
                case 6:
                    return spared;
                default:
                    return NONE;
            }
        }

        int allCoin() {
            int sum = 0;
            for (int i = 0; i < sorts; i++) {
                sum += many[i] * coin[i];
            }
            return sum;
        }

        int longestWork() {
            int longest = 0;
            for (int i = 0; i < sorts; i++) {
                longest = Math.max(longest, work[i]);
            }
            return longest;
        }

        int needOf(int sort) {
            return many[sort] * Math.max(0, want[sort] - coin[sort]);
        }

        /** What a work with so much brings beyond it. */
        int yieldOf(int sort, int much) {
            return want[sort] < 1 ? 0 : much * gain[sort] / want[sort];
        }
    }

    /** Reads the TOKENS and LINES of a text. */
    private static final class Reader {
        private static final int END = 0;
        private static final int WORD = 1;
        private static final int NUMBER = 2;
        private static final int STOP = 3;
        private static final int OTHER = 4;
        private static final int LETTERS_OF_NAME = 8;
        // Above all that can be told, and far from where an int ends.
        private static final int TOO_MUCH = 100000;
        private static final int[] LEAST_OF_SORT = {1, 0, 0, 1, 0, 0};
        private static final int[] MOST_OF_SORT = {50, 99, 99, 60, 99, 16};

        private final Text text;
        private final int[] nameStart = new int[MOST_SORTS];
        private final int[] nameEnd = new int[MOST_SORTS];
        private final int[] told = new int[6];
        private Land land;
        private int start = 0;
        private int place = 0;
        private int token = END;
        private int number = 0;
        private int taken = 0;
        private boolean moonTold = false;
        private boolean strikeTold = false;
        private boolean waitTold = false;

        Reader(Text text, Land land) {
            this.text = text;
            this.land = land;
        }

        /** Fills a LAND from the text: the FAULT, or NONE. */
        int read(Land into) {
            land = into;
            land.empty();
            moonTold = false;
            strikeTold = false;
            waitTold = false;
            place = 0;
            step();
            for (int line = 0; line <= MOST_BYTES && token != END; line++) {
                if (!readLine()) {
                    return start;
                }
            }
            return moonTold && land.sorts > 0 ? NONE : text.length;
        }

        private boolean readLine() {
            if (tokenIs("moon")) {
                return readMoon();
            }
            if (tokenIs("strike")) {
                return readStrike();
            }
            if (tokenIs("wait")) {
                return readWait();
            }
            if (tokenIs("sort")) {
                return readSort();
            }
            if (tokenIs("spare")) {
                return readSpare();
            }
            return tokenIs("turn") && readTurn();
        }

        private boolean readMoon() {
            if (moonTold) {
                return false;
            }
            moonTold = true;
            step();
            if (!takeNumber(5, 30)) {
                return false;
            }
            land.nights = taken;
            if (!takeNumber(0, 15)) {
                return false;
            }
            land.clouds = taken;
            return takeStop();
        }

        private boolean readStrike() {
            if (strikeTold) {
                return false;
            }
            strikeTold = true;
            step();
            if (!takeNumber(0, SIXTEEN)) {
                return false;
            }
            land.struck = taken;
            if (!takeNumber(1, MOST_EVERY)) {
                return false;
            }
            land.every = taken;
            return takeStop();
        }

        private boolean readWait() {
            if (waitTold) {
                return false;
            }
            waitTold = true;
            step();
            if (!takeNumber(0, 50)) {
                return false;
            }
            land.wait = taken;
            return takeStop();
        }

        private boolean readSort() {
            int sort = land.sorts;
            if (sort >= MOST_SORTS) {
                return false;
            }
            step();
            if (!canBeName()) {
                return false;
            }
            nameStart[sort] = start;
            nameEnd[sort] = place;
            step();
            for (int i = 0; i < told.length; i++) {
                if (!takeNumber(LEAST_OF_SORT[i], MOST_OF_SORT[i])) {
                    return false;
                }
                told[i] = taken;
            }
            land.addSort(told);
            return takeStop();
        }

        private boolean readSpare() {
            step();
            int kind = tokenKind();
            if (kind == NONE || land.isSpared(kind)) {
                return false;
            }
            land.spared |= 1 << kind;
            step();
            return takeStop();
        }

        private boolean readTurn() {
            if (land.turns >= MOST_TURNS) {
                return false;
            }
            step();
            int from = tokenKind();
            if (from == NONE) {
                return false;
            }
            step();
            int to = tokenKind();
            if (to == NONE || to == from || land.hasTurn(from, to)) {
                return false;
            }
            step();
            if (!takeNumber(0, 99)) {
                return false;
            }
            land.addTurn(from, to, taken);
            return takeStop();
        }

        /** Goes on behind a number that can stand here; else the TOKEN stays where the FAULT is. */
        private boolean takeNumber(int least, int most) {
            if (token != NUMBER || !isIn(number, least, most)) {
                return false;
            }
            taken = number;
            step();
            return true;
        }

        private boolean takeStop() {
            if (token != STOP) {
                return false;
            }
            step();
            return true;
        }

        private boolean canBeName() {
            if (token != WORD || place - start > LETTERS_OF_NAME || tokenKind() != NONE || isLineWord()) {
                return false;
            }
            for (int i = 0; i < land.sorts; i++) {
                if (tokenIsName(i)) {
                    return false;
                }
            }
            return true;
        }

        private boolean tokenIsName(int sort) {
            int length = nameEnd[sort] - nameStart[sort];
            if (place - start != length) {
                return false;
            }
            for (int i = 0; i < length; i++) {
                if (text.bytes[start + i] != text.bytes[nameStart[sort] + i]) {
                    return false;
                }
            }
            return true;
        }

        private boolean isLineWord() {
            return tokenIs("moon") || tokenIs("strike") || tokenIs("wait")
                || tokenIs("sort") || tokenIs("spare") || tokenIs("turn");
        }

        private int tokenKind() {
            if (tokenIs("loan")) {
                return 0;
            }
            if (tokenIs("pledge")) {
                return 1;
            }
            if (tokenIs("sale")) {
                return 2;
            }
            if (tokenIs("gift")) {
                return 3;
            }
            return tokenIs("purse") ? 4 : NONE;
        }

        private boolean tokenIs(String word) {
            if (token != WORD || place - start != word.length()) {
                return false;
            }
            for (int i = 0; i < word.length(); i++) {
                if (text.bytes[start + i] != word.charAt(i)) {
                    return false;
                }
            }
            return true;
        }

        /** The next TOKEN: from start on, up to place. */
        private void step() {
            skipBlanks();
            start = place;
            if (place >= text.length) {
                token = END;
                return;
            }
            int first = text.bytes[place];
            number = 0;
            if (isLetter(first)) {
                token = WORD;
                while (place < text.length && isLetter(text.bytes[place])) {
                    place++;
                }
            } else if (isDigit(first)) {
                token = NUMBER;
                while (place < text.length && isDigit(text.bytes[place])) {
                    number = Math.min(TOO_MUCH, number * 10 + text.bytes[place] - '0');
                    place++;
                }
            } else {
                token = first == ';' ? STOP : OTHER;
                place++;
            }
        }

        private void skipBlanks() {
            while (place < text.length && (text.bytes[place] == 32 || text.bytes[place] == 10)) {
                place++;
            }
        }

        private static boolean isLetter(int sign) {
            return sign >= 'a' && sign <= 'z';
        }

        private static boolean isDigit(int sign) {
            return sign >= '0' && sign <= '9';
        }
    }

    /** What comes back of a loan, what is lent, and which law lets most be sown. */
    private static final class Sowing {
        final int[] taken = new int[MOST_SORTS];
        final int[] takenInMoon = new int[MOST_SORTS];
        int sownInMoon = 0;
        int yieldInMoon = 0;
        int bestStruck = 0;
        int bestEvery = 0;
        int bestYield = NONE;
        // MOST less LEAST PRICE of a SORT that is still to be lent to, else NONE.
        private final int[] margin = new int[MOST_SORTS];

        static int backOf(Land land, int sort, int night, int struck, int every) {
            int gap = land.nights * every;
            if (gap < 1) {
                return WHOLE;
            }
            int paid = night + land.work[sort];
            int left = 256 - struck * (SIXTEEN - land.clouds);
            int back = WHOLE;
            for (int full = (night / gap + 1) * gap; full < paid; full += gap) {
                back = back * left / 256;
            }
            return back + (WHOLE - back) * land.word[sort] / SIXTEEN;
        }

        static int leastPrice(Land land, int sort, int back) {
            if (back < 1) {
                return NONE;
            }
            int enough = (100 + land.wait * land.work[sort] / 10) * WHOLE;
            int price = (enough + back - 1) / back - 100;
            return price > MOST_PRICE ? NONE : price;
        }

        static int mostPrice(Land land, int sort) {
            if (land.want[sort] < 1) {
                return NONE;
            }
            return Math.min(MOST_PRICE, land.gain[sort] * 100 / land.want[sort]);
        }

        private static int marginOf(Land land, int sort, int night, int struck, int every) {
            int most = mostPrice(land, sort);
            int least = leastPrice(land, sort, backOf(land, sort, night, struck, every));
            return least == NONE || most < least ? NONE : most - least;
        }

        /** What each SORT takes on a night, if so much is struck at each so-many-th MOON. */
        void shareNight(Land land, int night, int struck, int every) {
            for (int i = 0; i < land.sorts; i++) {
                taken[i] = 0;
                margin[i] = marginOf(land, i, night, struck, every);
            }
            int coin = land.allCoin();
            for (int i = 0; i < land.sorts; i++) {
                int sort = greatestMargin(land.sorts);
                if (sort == NONE) {
                    return;
                }
                taken[sort] = Math.min(coin, land.many[sort] * land.want[sort]);
                coin -= taken[sort];
                margin[sort] = NONE;
            }
        }

        private int greatestMargin(int sorts) {
            int found = NONE;
            int greatest = NONE;
            for (int i = 0; i < sorts; i++) {
                if (margin[i] > greatest) {
                    greatest = margin[i];
                    found = i;
                }
            }
            return found;
        }

        int sownTonight(Land land) {
            int sum = 0;
            for (int i = 0; i < land.sorts; i++) {
                sum += taken[i];
            }
            return sum;
        }

        int yieldTonight(Land land) {
            int sum = 0;
            for (int i = 0; i < land.sorts; i++) {
                sum += land.yieldOf(i, taken[i]);
            }
            return sum;
        }

        void shareMoon(Land land, int struck, int every) {
            sownInMoon = 0;
            yieldInMoon = 0;
            for (int i = 0; i < MOST_SORTS; i++) {
                takenInMoon[i] = 0;
            }
            for (int night = 0; night < land.nights; night++) {
                shareNight(land, night, struck, every);
                sownInMoon += sownTonight(land);
                yieldInMoon += yieldTonight(land);
                for (int i = 0; i < land.sorts; i++) {
                    takenInMoon[i] += taken[i];
                }
            }
        }

        void forgetBest() {
            bestYield = NONE;
        }

        /** The BEST LAW of a LAND stays, so it is sought once only: this is the dearest of all calls. */
        void seekBest(Land land) {
            if (bestYield != NONE) {
                return;
            }
            for (int struck = 0; struck <= SIXTEEN; struck++) {
                for (int every = 1; every <= MOST_EVERY; every++) {
                    if (bestYield == NONE || strikesLoansOfMoon(land, struck, every)) {
                        tryLaw(land, struck, every);
                    }
                }
            }
        }

        // A law that strikes no loan of a MOON yields what S 0 and E 1 do, and these came first.
        private static boolean strikesLoansOfMoon(Land land, int struck, int every) {
            return struck > 0 && land.nights * every < land.nights - 1 + land.longestWork();
        }

        private void tryLaw(Land land, int struck, int every) {
            shareMoon(land, struck, every);
            if (yieldInMoon > bestYield) {
                bestYield = yieldInMoon;
                bestStruck = struck;
                bestEvery = every;
            }
        }
    }

    /** Heaps and LOANS by nights. */
    private static final class Market {
        int night = 0;
        int x = 0;
        final int[] heap = new int[MOST_SORTS];
        final int[] lost = new int[MOST_SORTS];
        private final int[] lender = new int[MOST_LOANS];
        private final int[] borrower = new int[MOST_LOANS];
        private final int[] kind = new int[MOST_LOANS];
        // How much is 0 while a number is free: no LOAN is of 0.
        private final int[] much = new int[MOST_LOANS];
        private final int[] owed = new int[MOST_LOANS];
        private final int[] due = new int[MOST_LOANS];

        /** NIGHT 0: all have their COIN, nothing is owed or LOST. */
        void begin(Land land) {
            night = 0;
            for (int i = 0; i < MOST_SORTS; i++) {
                heap[i] = i < land.sorts ? land.many[i] * land.coin[i] : 0;
                lost[i] = 0;
            }
            Arrays.fill(much, 0);
        }

        void copyFrom(Market other) {
            night = other.night;
            x = other.x;
            System.arraycopy(other.heap, 0, heap, 0, MOST_SORTS);
            System.arraycopy(other.lost, 0, lost, 0, MOST_SORTS);
            System.arraycopy(other.lender, 0, lender, 0, MOST_LOANS);
            System.arraycopy(other.borrower, 0, borrower, 0, MOST_LOANS);
            System.arraycopy(other.kind, 0, kind, 0, MOST_LOANS);
            System.arraycopy(other.much, 0, much, 0, MOST_LOANS);
            System.arraycopy(other.owed, 0, owed, 0, MOST_LOANS);
            System.arraycopy(other.due, 0, due, 0, MOST_LOANS);
        }

        /** The number of a new LOAN that can be told so; NONE if the heap has less, or 40 are. */
        int makeLoan(Land land, int who, int ofKind, int howMuch, int price) {
            int from = who / 10;
            int to = who % 10;
            int loan = freeNumber();
            if (loan == NONE || !land.hasSort(from) || !land.hasSort(to) || heap[from] < howMuch) {
                return NONE;
            }
            heap[from] -= howMuch;
            lender[loan] = from;
            borrower[loan] = to;
            kind[loan] = ofKind;
            much[loan] = howMuch;
            owed[loan] = howMuch + howMuch * price / 100;
            due[loan] = night + land.work[to];
            return loan;
        }

        private int freeNumber() {
            for (int i = 0; i < MOST_LOANS; i++) {
                if (much[i] == 0) {
                    return i;
                }
            }
            return NONE;
        }

        boolean isOwed(int loan) {
            return loan >= 0 && loan < MOST_LOANS && much[loan] > 0;
        }

        int numberOf(int loan, int what) {
            switch (what) {
                case 0:
                    return lender[loan];
                case 1:
                    return borrower[loan];
                case 2:
                    return kind[loan];
                case 3:
                    return much[loan];
                case 4:
                    return owed[loan];
                case 5:
                    return due[loan];
                default:
                    return NONE;
            }
        }

        /** One night more, with what is paid in it; what is struck then is the caller's. */
        void passNight(Land land) {
            night++;
            for (int i = 0; i < MOST_LOANS; i++) {
                if (much[i] > 0 && due[i] == night) {
                    payBack(land, i);
                }
            }
        }

        private void payBack(Land land, int loan) {
            int to = borrower[loan];
            heap[to] += land.yieldOf(to, much[loan]) + much[loan];
            int paid = Math.min(heap[to], owed[loan]);
            heap[to] -= paid;
            heap[lender[loan]] += paid;
            much[loan] = 0;
        }

        void strikeByLots(Land land) {
            if (lotBelow16() < land.clouds) {
                return;
            }
            for (int i = 0; i < MOST_LOANS; i++) {
                if (canBeStruck(land, i) && lotBelow16() >= land.word[borrower[i]]) {
                    strikeLoan(land, i);
                }
            }
        }

        boolean canBeStruck(Land land, int loan) {
            return much[loan] > 0 && !land.isSpared(kind[loan]);
        }

        /** How much of a LOAN is struck. */
        int strikeLoan(Land land, int loan) {
            int gone = owed[loan] * land.struck / SIXTEEN;
            owed[loan] -= gone;
            lost[lender[loan]] += gone;
            return gone;
        }

        private int lotBelow16() {
            x = x * 1103515245 + 12345 & LOWEST_31_BITS;
            return (x >> 8) % SIXTEEN;
        }

        int loansOwed() {
            int loans = 0;
            for (int i = 0; i < MOST_LOANS; i++) {
                if (much[i] > 0) {
                    loans++;
                }
            }
            return loans;
        }

        int allOwed() {
            int sum = 0;
            for (int i = 0; i < MOST_LOANS; i++) {
                if (much[i] > 0) {
                    sum += owed[i];
                }
            }
            return sum;
        }

        int allLost() {
            int sum = 0;
            for (int i = 0; i < MOST_SORTS; i++) {
                sum += lost[i];
            }
            return sum;
        }
    }

    /** ENTRIES, and a market of their own in which they are judged. */
    private static final class Book {
        int entries = 0;
        final int[] night = new int[MOST_ENTRIES];
        final int[] struck = new int[MOST_ENTRIES];
        private final int[] loans = new int[MOST_ENTRIES];
        private final int[] money = new int[MOST_ENTRIES];
        private final int[] entryOfLoan = new int[MOST_LOANS];
        private final Market judged = new Market();

        void append(int atNight, int ofLoans, int ofMoney) {
            if (entries < MOST_ENTRIES) {
                night[entries] = atNight;
                loans[entries] = ofLoans;
                money[entries] = ofMoney;
                entries++;
            }
        }

        /** The first ENTRY that can't be made, or NONE; struck has what was struck of each by then. */
        int judgeAll(Land land) {
            Arrays.fill(struck, 0);
            judged.begin(land);
            for (int i = 0; i < entries; i++) {
                for (int from = judged.night; from < night[i]; from++) {
                    judgeNight(land);
                }
                int loan = judged.makeLoan(land, loans[i] % 100, loans[i] / 100, money[i] / 1000, money[i] % 1000);
                if (loan == NONE) {
                    return i;
                }
                entryOfLoan[loan] = i;
            }
            return NONE;
        }

        private void judgeNight(Land land) {
            judged.passNight(land);
            if (!land.isStruckAt(judged.night)) {
                return;
            }
            for (int i = 0; i < MOST_LOANS; i++) {
                if (judged.canBeStruck(land, i)) {
                    struck[entryOfLoan[i]] += judged.strikeLoan(land, i);
                }
            }
        }
    }

    /** WAYS ROUND: of each KIND the cost of the CHEAPEST and how many TURNS it has. */
    private static final class Ways {
        final int[] cost = new int[KINDS];
        private final int[] length = new int[KINDS];

        /** Measures the ways to the KINDS that are spared (bits); a KIND without one has cost NONE. */
        void measure(Land land, int spared) {
            for (int i = 0; i < KINDS; i++) {
                cost[i] = (spared >> i & 1) == 1 ? 0 : NONE;
                length[i] = 0;
            }
            // A cheapest way with the fewest TURNS sees no KIND twice, so as many rounds are enough.
            for (int i = 0; i < KINDS; i++) {
                for (int turn = 0; turn < land.turns; turn++) {
                    tryTurn(land, turn);
                }
            }
        }

        private void tryTurn(Land land, int turn) {
            int from = land.turnFrom[turn];
            int to = land.turnTo[turn];
            if (cost[to] == NONE) {
                return;
            }
            int newCost = cost[to] + land.turnCost[turn];
            int newLength = length[to] + 1;
            boolean cheaper = cost[from] == NONE || newCost < cost[from];
            if (cheaper || newCost == cost[from] && newLength < length[from]) {
                cost[from] = newCost;
                length[from] = newLength;
            }
        }

        /** The k-th TURN of the CHEAPEST way from a KIND, or NONE. */
        int turnAt(Land land, int kind, int k) {
            if (cost[kind] == NONE || k >= length[kind]) {
                return NONE;
            }
            int turn = firstTurn(land, kind);
            for (int i = 0; i < k && turn != NONE; i++) {
                turn = firstTurn(land, land.turnTo[turn]);
            }
            return turn;
        }

        /** The least TURN from a KIND that begins one of its best ways. */
        private int firstTurn(Land land, int kind) {
            for (int i = 0; i < land.turns; i++) {
                int to = land.turnTo[i];
                if (land.turnFrom[i] == kind && cost[to] != NONE
                    && cost[to] + land.turnCost[i] == cost[kind] && length[to] + 1 == length[kind]) {
                    return i;
                }
            }
            return NONE;
        }

        int fewestWords(Land land, int honest, int mostCost) {
            int canStop = land.spared & ~honest;
            int found = NONE;
            for (int stopped = 0; stopped < 1 << KINDS; stopped++) {
                boolean fewer = found == NONE || Integer.bitCount(stopped) < Integer.bitCount(found);
                if (fewer && (stopped & ~canStop) == 0) {
                    measure(land, land.spared & ~stopped);
                    if (!hasWayWithin(land.spared & ~stopped, mostCost)) {
                        found = stopped;
                    }
                }
            }
            return found;
        }

        private boolean hasWayWithin(int spared, int mostCost) {
            for (int i = 0; i < KINDS; i++) {
                if ((spared >> i & 1) == 0 && cost[i] != NONE && cost[i] <= mostCost) {
                    return true;
                }
            }
            return false;
        }
    }
}
