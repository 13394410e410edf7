/** Part 1 of Terms and promises 1 to 6 and 32 at their edges: a method for each sentence that names one. */
final class TextEdgesTest {
    private static final String MOON = "moon 5 0;";
    private static final String SORT = "sort a 1 1 1 1 1 1;";
    private static final String SPARES = "spare loan;spare pledge;spare sale;spare gift;spare purse;";
    private static final Check CHECK = new Check();

    public static void main(String[] args) {
        atMost500Bytes();
        bytesOfWords();
        bytesOfNumbers();
        anyBlanks();
        inAnyOrder();
        moonNumbers();
        strikeNumbers();
        waitNumbers();
        sortNumbers();
        names();
        atMost6Sorts();
        spares();
        turns();
        atMost12Turns();
        kindsByNumber();
        firstTokenThatCannotStand();
        byteThatBeginsNoToken();
        endsTooEarly();
        noMoonOrNoSort();
        onceEach();
        readAnew();
        takesThePlace();
        nothingIsDueAnyMore();
        newObject();
        feed();
        feedTooMuch();
        end();
        landWithFault();
        sortAsked();
        countAsked();
        CHECK.finish();
    }

    private static void fault(String text, int due) {
        MoonDebts x = new MoonDebts();
        Check.text(x, text);
        CHECK.same("fault() of " + text, x.fault(), due);
    }

    /** A number between two parts of a LAND: what can be is told so by count or sort, what can't is the FAULT. */
    private static void numbers(String head, String tail, int least, int most) {
        for (int n = 0; n <= most + 12; n++) {
            fault(head + n + tail, n >= least && n <= most ? -1 : head.length());
        }
        String[] tooMuch = {"100", "256", "1000", "65541", "99999", "100000", "2147483648", "4294967301", "4294967297",
            "18446744073709551617", "18446744073709551621", "9".repeat(60)};
        for (String n : tooMuch) {
            fault(head + n + tail, head.length());
        }
        fault(head + "0".repeat(60) + most + tail, -1);
        fault(head + "0".repeat(60) + (most + 1) + tail, head.length());
        fault(head + ";", head.length());
        fault(head + "-1" + tail, head.length());
        fault(head + "a" + tail, head.length());
    }

    private static void atMost500Bytes() {
        CHECK.about("A LAND is a text of at most 500 bytes.");
        StringBuilder text = new StringBuilder("moon 30 15;strike 16 9;wait 50;" + SPARES + Check.turns(12, 99));
        for (int i = 0; i < 6; i++) {
            text.append("sort ").append((char) ('u' + i)).append(" 50 99 99 60 99 16;");
        }
        CHECK.yes("all that can be told has room", text.length() < 500);
        MoonDebts x = new MoonDebts();
        Check.text(x, text.toString() + " ".repeat(500 - text.length()));
        CHECK.same("count(8)", x.count(8), 500);
        CHECK.same("fault()", x.fault(), -1);
        CHECK.same("land()", x.land(), 6);
        int[] due = {6, 12, 30, 15, 16, 9, 31, 0, 0};
        for (int what = 0; what < due.length; what++) {
            CHECK.same("count(" + what + ")", x.count(what), due[what]);
        }
        int[] told = {50, 99, 99, 60, 99, 16};
        for (int i = 0; i < 36; i++) {
            CHECK.same("sort(" + i / 6 + ", " + i % 6 + ")", x.sort(i / 6, i % 6), told[i % 6]);
        }
        // The last of 500 bytes is read, too.
        fault(" ".repeat(500 - MOON.length() - SORT.length()) + MOON + SORT, -1);
        fault(" ".repeat(499 - MOON.length() - SORT.length()) + MOON + SORT + ";", 499);
    }

    private static void bytesOfWords() {
        CHECK.about("TOKENS: words of small letters, .. as long as can be");
        for (int sign = 0; sign < 256; sign++) {
            boolean stands = sign >= 'a' && sign <= 'z' || sign == 32 || sign == 10;
            // Behind the NAME a number 1 .. 9 is its M, and the last of the six behind it can't stand.
            int due = stands ? -1 : sign >= '1' && sign <= '9' ? 27 : 15;
            fault("moon 5 0;sort a" + (char) sign + " 1 1 1 1 1 1;", due);
        }
        fault("moon 5 0;sorta 1 1 1 1 1 1;", 9);
        fault("moon 5 0;so rt a 1 1 1 1 1 1;", 9);
    }

    private static void bytesOfNumbers() {
        CHECK.about("TOKENS: .. numbers of digits, as long as can be, and ;");
        for (int sign = 0; sign < 256; sign++) {
            boolean digit = sign >= '0' && sign <= '9';
            fault("moon 5" + (char) sign + " 0;" + SORT, sign == 32 || sign == 10 ? -1 : digit ? 5 : 6);
        }
        for (char digit = '0'; digit <= '9'; digit++) {
            MoonDebts x = Check.landOf("moon 1" + digit + " 0;sort a 1 " + digit + " 1 1 1 1;");
            CHECK.same("P of 1" + digit, x.count(2), 10 + digit - '0');
            CHECK.same("C of " + digit, x.sort(0, 1), digit - '0');
        }
        fault("moon 5 0;sort a 1 1 1 1 1 1 1;", 28);
        fault("moon 5 0;sort a 1 1 1 1 1 1 ;", -1);
    }

    private static void anyBlanks() {
        CHECK.about("with any blanks (32) and line ends (10) between");
        fault("moon5 0;sort a1 1 1 1 1 1;", -1);
        fault("moon 5 0 ; sort a 1 1 1 1 1 1 ;", -1);
        fault("\n \n moon \n\n 5 \n 0 \n;\n sort \n a \n 1 1 1\n1 1 1\n;\n \n", -1);
        for (char sign : new char[] {9, 11, 13, 31, 33, 160, 0}) {
            fault(MOON + sign + SORT, 9);
            fault(MOON + " " + sign + SORT, 10);
        }
    }

    private static void inAnyOrder() {
        CHECK.about("LINES, in any order");
        String[] lines = {"moon 7 3;", "strike 2 4;", "wait 6;", "sort b 1 2 3 4 5 6;", "spare gift;", "turn loan gift 8;"};
        for (int first = 0; first < lines.length; first++) {
            StringBuilder text = new StringBuilder();
            for (int i = 0; i < lines.length; i++) {
                text.append(lines[(first + i) % lines.length]);
            }
            MoonDebts x = Check.landOf(text.toString());
            int[] due = {1, 1, 7, 3, 2, 4, 8};
            for (int what = 0; what < due.length; what++) {
                CHECK.same("count(" + what + ") of " + text, x.count(what), due[what]);
            }
            CHECK.same("cost of the TURN of " + text, x.round(0, -1), 8);
            // 6 times 4 by 10 is 2, and it is paid at night 4.
            CHECK.same("wait of " + text, x.back(0, 0, 1), 2);
        }
    }

    private static void moonNumbers() {
        CHECK.about("moon P Q ; (once: a MOON of P nights, 5 .. 30, CLOUDS Q 0 .. 15)");
        numbers(SORT + "moon ", " 0;", 5, 30);
        numbers(SORT + "moon 5 ", ";", 0, 15);
        for (int p = 5; p <= 30; p++) {
            CHECK.same("P", Check.landOf(SORT + "moon " + p + " 0;").count(2), p);
        }
        for (int q = 0; q <= 15; q++) {
            CHECK.same("Q", Check.landOf(SORT + "moon 5 " + q + ";").count(3), q);
        }
    }

    private static void strikeNumbers() {
        CHECK.about("strike S E ; (once: S 0 .. 16, at each E-th MOON, 1 .. 9; 16 and 1 without)");
        numbers(MOON + SORT + "strike ", " 1;", 0, 16);
        numbers(MOON + SORT + "strike 0 ", ";", 1, 9);
        for (int s = 0; s <= 16; s++) {
            CHECK.same("S", Check.landOf(MOON + SORT + "strike " + s + " 1;").count(4), s);
        }
        for (int e = 1; e <= 9; e++) {
            CHECK.same("E", Check.landOf(MOON + SORT + "strike 3 " + e + ";").count(5), e);
        }
        CHECK.same("S without", Check.landOf(MOON + SORT).count(4), 16);
        CHECK.same("E without", Check.landOf(MOON + SORT).count(5), 1);
        // What a LAND ahead told does not stay.
        MoonDebts x = Check.landOf(MOON + SORT + "strike 3 4;");
        Check.text(x, MOON + SORT);
        x.land();
        CHECK.same("S without, behind another LAND", x.count(4), 16);
        CHECK.same("E without, behind another LAND", x.count(5), 1);
    }

    private static void waitNumbers() {
        CHECK.about("wait Z ; (once: 0 .. 50; 0 without)");
        numbers(MOON + SORT + "wait ", ";", 0, 50);
        String ten = "moon 30 0;sort a 1 1 1 10 1 1;";
        for (int z = 0; z <= 50; z++) {
            CHECK.same("LEAST PRICE of Z " + z, Check.landOf(ten + "wait " + z + ";").back(0, 0, 1), z);
        }
        CHECK.same("LEAST PRICE without", Check.landOf(ten).back(0, 0, 1), 0);
        MoonDebts x = Check.landOf(ten + "wait 50;");
        Check.text(x, ten);
        x.land();
        CHECK.same("LEAST PRICE without, behind another LAND", x.back(0, 0, 1), 0);
    }

    private static void sortNumbers() {
        CHECK.about("MANY M 1 .. 50, COIN C 0 .. 99 each, WANT W 0 .. 99 each, a WORK of Y nights, 1 .. 60, that brings G 0 .. 99 more,"
            + " WORD K 0 .. 16");
        int[] least = {1, 0, 0, 1, 0, 0};
        int[] most = {50, 99, 99, 60, 99, 16};
        for (int what = 0; what < 6; what++) {
            String head = MOON + "sort a " + "1 ".repeat(what);
            String tail = " 1".repeat(5 - what) + ";";
            numbers(head, tail, least[what], most[what]);
            for (int n = least[what]; n <= most[what]; n++) {
                MoonDebts x = Check.landOf(head + n + tail);
                for (int other = 0; other < 6; other++) {
                    CHECK.same("sort(0, " + other + ") of " + head + n + tail, x.sort(0, other), other == what ? n : 1);
                }
            }
        }
    }

    private static void names() {
        CHECK.about("N a NAME: a word of at most 8 letters but the words of LINES and KINDS, all unlike");
        for (int letters = 1; letters <= 20; letters++) {
            fault(MOON + "sort " + "z".repeat(letters) + " 1 1 1 1 1 1;", letters <= 8 ? -1 : 14);
        }
        String[] told = {"moon", "strike", "wait", "sort", "spare", "turn", "loan", "pledge", "sale", "gift", "purse"};
        for (String word : told) {
            fault(MOON + "sort " + word + " 1 1 1 1 1 1;", 14);
            // A word that only begins like it, or lacks its last letter, is another word.
            fault(MOON + "sort " + word + "s 1 1 1 1 1 1;", -1);
            fault(MOON + "sort " + word.substring(0, word.length() - 1) + " 1 1 1 1 1 1;", -1);
            fault(MOON + "sort x" + word.substring(1) + " 1 1 1 1 1 1;", -1);
        }
        fault(MOON + SORT + "sort a 1 1 1 1 1 1;", 33);
        fault(MOON + SORT + "sort aa 1 1 1 1 1 1;sort b 1 1 1 1 1 1;", -1);
        fault(MOON + "sort abcdefgh 1 1 1 1 1 1;sort abcdefgx 1 1 1 1 1 1;", -1);
        fault(MOON + "sort abcdefgh 1 1 1 1 1 1;sort xbcdefgh 1 1 1 1 1 1;", -1);
        fault(MOON + "sort abcdefgh 1 1 1 1 1 1;sort abcdefg 1 1 1 1 1 1;", -1);
        fault(MOON + "sort abcdefgh 1 1 1 1 1 1;sort abcdefgh 1 1 1 1 1 1;", 40);
        // What stands ahead of a NAME has no part in it.
        fault(MOON + SORT + "sort\na 1 1 1 1 1 1;", 33);
        fault(MOON + SORT + "sort  a 1 1 1 1 1 1;", 34);
        String five = MOON + Check.sorts(5);
        for (char name = 'a'; name <= 'f'; name++) {
            fault(five + "sort " + name + " 1 1 1 1 1 1;", name == 'f' ? -1 : five.length() + 5);
        }
        // A NAME of a LAND ahead is free.
        MoonDebts x = Check.landOf(MOON + Check.sorts(3));
        Check.text(x, MOON + Check.sorts(3));
        CHECK.same("fault() behind a LAND with these NAMES", x.fault(), -1);
    }

    private static void atMost6Sorts() {
        CHECK.about("at most 6 SORTS, numbers as they come / a 7th sort");
        for (int many = 1; many <= 8; many++) {
            String text = MOON + Check.sorts(many);
            fault(text, many <= 6 ? -1 : MOON.length() + 6 * SORT.length());
            MoonDebts x = new MoonDebts();
            Check.text(x, text);
            CHECK.same("land() of " + many + " SORTS", x.land(), many <= 6 ? many : -1);
        }
        fault(MOON + Check.sorts(6) + "sort", MOON.length() + 6 * SORT.length());
        MoonDebts x = Check.landOf(MOON + "sort z 1 11 1 1 1 1;sort y 2 22 1 1 1 1;sort x 3 33 1 1 1 1;sort c 4 44 1 1 1 1;"
            + "sort b 5 55 1 1 1 1;sort a 6 66 1 1 1 1;");
        for (int sort = 0; sort < 6; sort++) {
            CHECK.same("M of " + sort, x.sort(sort, 0), sort + 1);
            CHECK.same("C of " + sort, x.sort(sort, 1), 11 * (sort + 1));
        }
    }

    private static void spares() {
        CHECK.about("spare KIND ; (each KIND once)");
        fault(MOON + SORT + SPARES, -1);
        String[] kinds = {"loan", "pledge", "sale", "gift", "purse"};
        for (String kind : kinds) {
            String head = MOON + SORT + SPARES + "spare ";
            fault(head + kind + ";", head.length());
            fault(MOON + SORT + "spare " + kind + "s;", 34);
            fault(MOON + SORT + "spare " + kind.substring(1) + ";", 34);
        }
        fault(MOON + SORT + "spare a;", 34);
        fault(MOON + SORT + "spare 0;", 34);
        fault(MOON + SORT + "spare ;", 34);
        fault(MOON + SORT + "spare loan loan;", 39);
    }

    private static void turns() {
        CHECK.about("turn KIND KIND A ; (two unlike KINDS, each couple once: A 0 .. 99");
        numbers(MOON + SORT + "turn loan sale ", ";", 0, 99);
        for (int a = 0; a <= 99; a++) {
            CHECK.same("A " + a, Check.landOf(MOON + SORT + "spare sale;turn loan sale " + a + ";").round(0, -1), a);
        }
        String[] kinds = {"loan", "pledge", "sale", "gift", "purse"};
        String head = MOON + SORT;
        for (String from : kinds) {
            for (String to : kinds) {
                int second = head.length() + 6 + from.length();
                String line = "turn " + from + " " + to + " 1;";
                fault(head + line, from.equals(to) ? second : -1);
                if (!from.equals(to)) {
                    fault(head + line + line, second + line.length());
                    fault(head + line + "turn " + to + " " + from + " 1;", -1);
                }
            }
        }
        fault(head + "turn a loan 1;", 33);
        fault(head + "turn loan a 1;", 38);
        fault(head + "turn 1 loan 1;", 33);
    }

    private static void atMost12Turns() {
        CHECK.about("at most 12 TURNS, numbers as they come / 13th turn");
        for (int many = 0; many <= 14; many++) {
            String text = MOON + SORT + Check.turns(many, 1);
            fault(text, many <= 12 ? -1 : (MOON + SORT + Check.turns(12, 1)).length());
            if (many <= 12) {
                CHECK.same("count(1)", Check.landOf(text).count(1), many);
            }
        }
        String twelve = MOON + SORT + Check.turns(12, 1);
        fault(twelve + "turn", twelve.length());
        // From a sale the 12th TURN alone goes to a purse.
        MoonDebts x = Check.landOf(twelve + "spare purse;");
        CHECK.same("round(2, 0)", x.round(2, 0), 11);
        CHECK.same("round(1, 0)", x.round(1, 0), 7);
        CHECK.same("round(0, 0)", x.round(0, 0), 3);
    }

    private static void kindsByNumber() {
        CHECK.about("KINDS are loan pledge sale gift purse, 0 .. 4.");
        String[] kinds = {"loan", "pledge", "sale", "gift", "purse"};
        for (int kind = 0; kind < 5; kind++) {
            MoonDebts x = Check.landOf(MOON + SORT + "spare " + kinds[kind] + ";");
            CHECK.same("count(6) of " + kinds[kind], x.count(6), 1 << kind);
            for (int from = 0; from < 5; from++) {
                CHECK.same("round(" + from + ", -1) with " + kinds[kind], x.round(from, -1), from == kind ? 0 : -1);
            }
        }
    }

    private static void firstTokenThatCannotStand() {
        CHECK.about("The FAULT is the place (from 0 on) of the first byte of the first TOKEN that can't stand there");
        fault(";", 0);
        fault("1", 0);
        fault("loan", 0);
        fault(" \n moo", 3);
        fault(MOON + SORT + "moons 5 0;", 28);
        fault("moon moon", 5);
        fault("moon ;", 5);
        fault("moon 5 0 sort", 9);
        fault("strike 5 5 5", 11);
        fault("wait 5 5", 7);
        fault("sort ;", 5);
        fault("sort 5", 5);
        fault("sort a ;", 7);
        fault("sort a b", 7);
        fault("spare loan 5", 11);
        fault("turn loan ;", 10);
        fault("turn loan sale ;", 15);
        fault("turn loan sale 5 5", 17);
        // Two that can't stand: the first is told.
        fault("moon 4 16;", 5);
        fault("moon 5 16; moo", 7);
        fault("moon 5 16 $", 7);
    }

    private static void byteThatBeginsNoToken() {
        CHECK.about("or of a byte that begins no TOKEN, if that is ahead");
        fault("moon $ 99;", 5);
        fault("moon 5 $ 99;", 7);
        fault("moon 5 99 $;", 7);
        fault("moon 5 0;$", 9);
        fault("$", 0);
        fault("moon$5 0;", 4);
        fault("moon 5 0$;", 8);
        fault("moon 5 0;sort A", 14);
        fault("moon 5 0;sort aA", 15);
        fault(MOON + SORT + "  " + (char) 255, 30);
        fault(MOON + SORT + (char) 128, 28);
        // The length is told only if nothing else is there.
        fault("moon 5 $", 7);
        fault("   $", 3);
    }

    private static void endsTooEarly() {
        CHECK.about("the length, if it ends too early");
        String[] texts = {"moon", "moon 5", "moon 5 0", "strike", "strike 5", "strike 5 5", "wait", "wait 5", "sort", "sort a",
            "sort a 1", "sort a 1 1", "sort a 1 1 1", "sort a 1 1 1 1", "sort a 1 1 1 1 1", "sort a 1 1 1 1 1 1", "spare",
            "spare loan", "turn", "turn loan", "turn loan sale", "turn loan sale 1"};
        for (String text : texts) {
            fault(text, text.length());
            fault(text + " \n ", text.length() + 3);
            String ahead = text.startsWith("moon") ? "sort z 1 1 1 1 1 1;" : MOON + "sort z 1 1 1 1 1 1;";
            fault(ahead + text, ahead.length() + text.length());
        }
        // A word that is cut can't stand.
        fault("moo", 0);
        fault("turn loan sal", 10);
    }

    private static void noMoonOrNoSort() {
        CHECK.about("or there is no MOON or no SORT; NONE without");
        fault("", 0);
        fault(" ", 1);
        fault("\n\n\n", 3);
        fault(MOON, 9);
        fault(MOON + " ", 10);
        fault(SORT, 19);
        fault(SORT + "\n", 20);
        fault("strike 1 1;wait 1;" + SPARES + Check.turns(2, 1), 18 + SPARES.length() + Check.turns(2, 1).length());
        fault(MOON + "strike 1 1;", 20);
        fault(SORT + "strike 1 1;", 30);
        fault(MOON + SORT, -1);
        fault(SORT + MOON, -1);
        fault(" ".repeat(500), 500);
        // The LAND that is there does not count.
        MoonDebts x = Check.landOf(MOON + SORT);
        CHECK.same("fault() of the empty text behind a LAND", x.fault(), 0);
        Check.text(x, SORT);
        CHECK.same("fault() without a MOON behind a LAND", x.fault(), 19);
        Check.text(x, MOON);
        CHECK.same("fault() without a SORT behind a LAND", x.fault(), 9);
    }

    private static void onceEach() {
        CHECK.about("second moon, strike, wait at their words");
        fault(MOON + SORT + "moon 6 1;", 28);
        fault(MOON + "moon", 9);
        fault("strike 0 1;strike 0 1;", 11);
        fault("strike 0 1;strike", 11);
        fault("wait 0;wait 0;", 7);
        fault("wait 0;wait", 7);
        // A reading ahead of this one told nothing: the same text is read without a FAULT each time.
        MoonDebts x = new MoonDebts();
        Check.text(x, MOON + SORT + "strike 1 1;wait 1;spare loan;turn loan sale 1;");
        CHECK.same("fault()", x.fault(), -1);
        CHECK.same("fault() once more", x.fault(), -1);
        CHECK.same("land()", x.land(), 1);
        CHECK.same("TURNS", x.count(1), 1);
    }

    private static void readAnew() {
        CHECK.about("16 and 1 without / 0 without (what a text ahead told does not stay)");
        MoonDebts x = new MoonDebts();
        Check.text(x, "moon 30 15;strike 3 4;wait 50;" + SPARES + Check.turns(12, 1) + Check.sorts(5));
        CHECK.same("fault()", x.fault(), -1);
        Check.text(x, "moon 5 0;sort a 1 1 1 10 1 1;");
        CHECK.same("land()", x.land(), 1);
        int[] due = {1, 0, 5, 0, 16, 1, 0};
        for (int what = 0; what < due.length; what++) {
            CHECK.same("count(" + what + ")", x.count(what), due[what]);
        }
        // All is struck and a quarter is BACK by WORD: 400 bring 100; with the wait no price would do.
        Check.text(x, "moon 5 0;wait 50;sort a 1 1 1 10 1 4;");
        CHECK.same("fault()", x.fault(), -1);
        Check.text(x, "moon 5 0;sort a 1 1 1 10 1 4;");
        CHECK.same("land()", x.land(), 1);
        CHECK.same("LEAST PRICE without a wait", x.back(0, 0, 1), 300);
    }

    private static void nothingIsDueAnyMore() {
        CHECK.about("A LAND .. takes the place of the one ahead: .. nothing is owed");
        String text = "moon 5 0;sort a 2 50 0 9 0 0;sort b 3 9 9 9 9 0;";
        MoonDebts x = Check.landOf(text);
        for (int i = 0; i < 40; i++) {
            x.lend(1, i % 5, 1, 400);
        }
        Check.text(x, text);
        CHECK.same("land()", x.land(), 2);
        x.go(9);
        CHECK.same("heap of a when those ahead were due", x.market(10), 100);
        CHECK.same("heap of b when those ahead were due", x.market(11), 27);
        CHECK.same("LOST", x.market(3), 0);
        // So it is behind an image of a market without LOANS.
        x.image(0);
        x.lend(1, 0, 50, 100);
        x.on(0);
        x.go(9);
        CHECK.same("heap of a", x.market(10), 100);
        CHECK.same("heap of b", x.market(11), 27);
    }

    private static void takesThePlace() {
        CHECK.about("A LAND without one takes the place of the one ahead: the market is at NIGHT 0 (all have their COIN, nothing is owed),"
            + " no BOOK, no images; lots from 0 on.");
        String text = "moon 5 8;sort a 2 50 0 5 0 0;sort b 3 0 9 60 9 0;spare gift;turn loan gift 2;";
        MoonDebts x = Check.landOf(text + "sort c 1 1 1 1 1 1;wait 3;strike 3 3;spare sale;turn loan sale 1;");
        x.seed(Lots.seedWith(3, 15));
        x.lend(1, 0, 90, 0);
        x.lend(2, 0, 5, 0);
        x.go(55);
        x.entry(1, 1, 1000);
        for (int k = 0; k < 3; k++) {
            CHECK.yes("image(" + k + ")", x.image(k));
        }
        CHECK.yes("something is LOST", x.market(3) > 0);
        Check.text(x, text);
        CHECK.same("land()", x.land(), 2);
        int[] market = {0, 0, 0, 0};
        for (int what = 0; what < 4; what++) {
            CHECK.same("market(" + what + ")", x.market(what), market[what]);
        }
        CHECK.same("heap of a", x.market(10), 100);
        CHECK.same("heap of b", x.market(11), 0);
        CHECK.same("LOST by a", x.market(20), 0);
        CHECK.same("LOST by b", x.market(21), 0);
        CHECK.same("no SORT c", x.market(12), -1);
        CHECK.same("no LOAN", x.loan(0, 0), -1);
        int[] counts = {2, 1, 5, 8, 16, 1, 8, 0, 0};
        for (int what = 0; what < counts.length; what++) {
            CHECK.same("count(" + what + ")", x.count(what), counts[what]);
        }
        for (int k = 0; k < 3; k++) {
            CHECK.no("on(" + k + ")", x.on(k));
        }
        lotsFromZero(x);
    }

    private static void lotsFromZero(MoonDebts x) {
        Lots lots = new Lots(0);
        for (int moon = 0; moon < 11; moon++) {
            int loan = x.lend(1, 0, 1, 0);
            int ahead = x.market(3);
            x.go(5);
            boolean hidden = lots.below16() < 8;
            for (int i = 0; i <= loan && !hidden; i++) {
                lots.below16();
            }
            // All that is owed is struck whole, and only what came since the last MOON that struck is owed.
            CHECK.same("LOST at MOON " + moon, x.market(3) > ahead ? 1 : 0, hidden ? 0 : 1);
        }
    }

    private static void newObject() {
        CHECK.about("MoonDebts(): No LAND.");
        MoonDebts x = new MoonDebts();
        CHECK.same("fault()", x.fault(), 0);
        CHECK.same("land()", x.land(), -1);
        for (int what = 0; what <= 8; what++) {
            CHECK.same("count(" + what + ")", x.count(what), 0);
        }
        for (int i = 0; i <= 5; i++) {
            CHECK.same("sort(0, " + i + ")", x.sort(0, i), -1);
            CHECK.same("loan(0, " + i + ")", x.loan(0, i), -1);
            CHECK.same("market(" + i + ")", x.market(i), -1);
            CHECK.same("market(1" + i + ")", x.market(10 + i), -1);
            CHECK.same("market(2" + i + ")", x.market(20 + i), -1);
            CHECK.same("round(" + i + ", -1)", x.round(i, -1), -1);
            CHECK.same("gains(" + i + ")", x.gains(i), -999999);
        }
        for (int what = 0; what <= 2; what++) {
            CHECK.same("back(0, 0, " + what + ")", x.back(0, 0, what), -1);
            CHECK.same("best(" + what + ")", x.best(what), -1);
            CHECK.no("image(" + what + ")", x.image(what));
            CHECK.no("on(" + what + ")", x.on(what));
        }
        CHECK.same("moon(0, 1, 1)", x.moon(0, 1, 1), -1);
        CHECK.same("purse(100, 1)", x.purse(100, 1), -1);
        CHECK.same("cloudy(12, 12)", x.cloudy(12, 12), -1);
        CHECK.same("words(31, 2000)", x.words(31, 2000), -1);
        CHECK.same("lent(0, 0)", x.lent(0, 0), -1);
        CHECK.same("lent(-1, 0)", x.lent(-1, 0), -1);
        CHECK.same("brought(0)", x.brought(0), -1);
        CHECK.same("go(200)", x.go(200), -1);
        CHECK.same("entry(0, 1, 1000)", x.entry(0, 1, 1000), -1);
        CHECK.same("judge(0)", x.judge(0), -1);
    }

    private static void feed() {
        CHECK.about("Bytes come behind those of the text, of each number the highest first (20 of them): how many there are");
        MoonDebts x = new MoonDebts();
        // "moon 29 13;sort b 41" " 52 63 54 75 6;XXXXX"
        CHECK.same("feed", x.feed(0x6d6f6f6e, 0x20323920, 0x31333b73, 0x6f727420, 0x62203431), 20);
        CHECK.same("feed", x.feed(0x20353220, 0x36332035, 0x34203735, 0x20363b58, 0x58585858), 40);
        CHECK.same("fault()", x.fault(), 35);
        CHECK.yes("end(35)", x.end(35));
        CHECK.same("land()", x.land(), 1);
        int[] due = {41, 52, 63, 54, 75, 6};
        for (int what = 0; what < 6; what++) {
            CHECK.same("sort(0, " + what + ")", x.sort(0, what), due[what]);
        }
        CHECK.same("P", x.count(2), 29);
        CHECK.same("Q", x.count(3), 13);
        // Behind a text that was cut they come at its end, whatever stood there.
        CHECK.same("feed", x.feed(0x6d6f6f6e, 0x58585858, 0x58585858, 0x58585858, 0x58585858), 20);
        CHECK.yes("end(4)", x.end(4));
        CHECK.same("feed behind 4", x.feed(0x20352030, 0x3b736f72, 0x74206120, 0x31203120, 0x31203120), 24);
        CHECK.same("feed behind 24", x.feed(0x31203720, 0x3b202020, 0x20202020, 0x20202020, 0x20202020), 44);
        CHECK.same("fault()", x.fault(), -1);
        CHECK.yes("end(28)", x.end(28));
        CHECK.same("feed behind 28", x.feed(0x20393b20, 0x20202020, 0x20202020, 0x20202020, 0x20202020), 48);
        CHECK.same("land()", x.land(), -1);
        CHECK.same("fault() of a number where ; must be", x.fault(), 29);
        // The highest bit of each number is a bit of its first byte.
        CHECK.yes("end(0)", x.end(0));
        CHECK.same("feed", x.feed(0x20202020, 0x20202020, 0xff202020, 0x20202020, 0x20202020), 20);
        CHECK.same("fault()", x.fault(), 8);
    }

    private static void feedTooMuch() {
        CHECK.about("NONE if there would be more than 500.");
        MoonDebts x = new MoonDebts();
        for (int i = 1; i <= 25; i++) {
            CHECK.same("feed", x.feed(0x20202020, 0x20202020, 0x20202020, 0x20202020, 0x20202020), 20 * i);
        }
        for (int length = 500; length >= 478; length--) {
            CHECK.yes("end(" + length + ")", x.end(length));
            CHECK.same("feed behind " + length, x.feed(0x20202020, 0x20202020, 0x20202020, 0x20202020, 0x20202020),
                length <= 480 ? length + 20 : -1);
            CHECK.same("count(8)", x.count(8), length <= 480 ? length + 20 : length);
        }
        CHECK.yes("end(481)", x.end(481));
        CHECK.same("what is refused", x.feed(-1, -1, -1, -1, -1), -1);
        CHECK.same("fault() behind it", x.fault(), 481);
    }

    private static void end() {
        CHECK.about("The text has its first n bytes alone: true; false if it has not so many, or n is below 0.");
        MoonDebts x = new MoonDebts();
        CHECK.yes("end(0) of an empty text", x.end(0));
        CHECK.no("end(1) of an empty text", x.end(1));
        CHECK.no("end(-1) of an empty text", x.end(-1));
        x.feed(0, 0, 0, 0, 0);
        CHECK.no("end(21)", x.end(21));
        CHECK.same("count(8)", x.count(8), 20);
        CHECK.yes("end(20)", x.end(20));
        CHECK.same("count(8)", x.count(8), 20);
        CHECK.yes("end(19)", x.end(19));
        CHECK.same("count(8)", x.count(8), 19);
        CHECK.no("end(20) of 19", x.end(20));
        CHECK.no("end(-1)", x.end(-1));
        CHECK.no("end(MIN)", x.end(Integer.MIN_VALUE));
        CHECK.no("end(MAX)", x.end(Integer.MAX_VALUE));
        CHECK.same("count(8)", x.count(8), 19);
        CHECK.yes("end(1)", x.end(1));
        CHECK.yes("end(0)", x.end(0));
        CHECK.same("count(8)", x.count(8), 0);
        CHECK.no("end(1) of 0", x.end(1));
        Check.text(x, MOON + SORT + "moo");
        CHECK.same("fault()", x.fault(), 28);
        CHECK.yes("end(28)", x.end(28));
        CHECK.same("fault() of the first 28 alone", x.fault(), -1);
        CHECK.yes("end(27)", x.end(27));
        CHECK.same("fault() of the first 27 alone", x.fault(), 27);
        // A TOKEN that is cut ends where the text does, though more of it was fed.
        Check.text(x, "moon 55");
        CHECK.same("fault() of P 55", x.fault(), 5);
        CHECK.yes("end(6)", x.end(6));
        CHECK.same("fault() of P 5", x.fault(), 6);
        Check.text(x, "sort abcdefghi");
        CHECK.same("fault() of nine letters", x.fault(), 5);
        CHECK.yes("end(13)", x.end(13));
        CHECK.same("fault() of eight letters", x.fault(), 13);
    }

    private static void landWithFault() {
        CHECK.about("The LAND comes of the text, which is empty then: how many SORTS; NONE with a FAULT (it stays).");
        MoonDebts x = new MoonDebts();
        Check.text(x, MOON + Check.sorts(2) + "moo");
        CHECK.same("land()", x.land(), -1);
        CHECK.same("count(8)", x.count(8), 50);
        CHECK.same("fault()", x.fault(), 47);
        CHECK.same("count(0)", x.count(0), 0);
        CHECK.same("land() once more", x.land(), -1);
        CHECK.yes("end(47)", x.end(47));
        CHECK.same("land() of what is left", x.land(), 2);
        CHECK.same("count(8) behind it", x.count(8), 0);
        CHECK.same("land() of the empty text", x.land(), -1);
        CHECK.same("the LAND is there still", x.count(0), 2);
        CHECK.same("fault() of the empty text", x.fault(), 0);
    }

    private static void sortAsked() {
        CHECK.about("Of a SORT: 0 M, 1 C, 2 W, 3 Y, 4 G, 5 K. NONE for others, or if there is none such.");
        for (int many : new int[] {1, 2, 5, 6}) {
            MoonDebts x = Check.landOf(MOON + Check.sorts(many));
            for (int sort = -2; sort <= 8; sort++) {
                for (int what = -1; what <= 6; what++) {
                    boolean there = sort >= 0 && sort < many && what >= 0 && what <= 5;
                    CHECK.same("sort(" + sort + ", " + what + ") of " + many, x.sort(sort, what), there ? 1 : -1);
                }
            }
            CHECK.same("sort(MIN, 0)", x.sort(Integer.MIN_VALUE, 0), -1);
            CHECK.same("sort(MAX, 0)", x.sort(Integer.MAX_VALUE, 0), -1);
            CHECK.same("sort(0, MIN)", x.sort(0, Integer.MIN_VALUE), -1);
            CHECK.same("sort(0, MAX)", x.sort(0, Integer.MAX_VALUE), -1);
        }
    }

    private static void countAsked() {
        CHECK.about("7 ENTRIES, 8 bytes of the text. NONE for others. (0 .. 6: 0 without a LAND.)");
        MoonDebts x = new MoonDebts();
        x.feed(0, 0, 0, 0, 0);
        for (int what = 0; what <= 7; what++) {
            CHECK.same("count(" + what + ") without a LAND", x.count(what), 0);
        }
        CHECK.same("count(8) without a LAND", x.count(8), 20);
        MoonDebts y = Check.landOf("moon 9 7;strike 0 3;" + Check.sorts(4) + Check.turns(5, 2) + "spare loan;spare purse;");
        y.entry(2, 1, 1000);
        y.entry(2, 1, 1000);
        y.feed(0, 0, 0, 0, 0);
        y.end(11);
        int[] due = {4, 5, 9, 7, 0, 3, 17, 2, 11};
        for (int what = 0; what < due.length; what++) {
            CHECK.same("count(" + what + ")", y.count(what), due[what]);
        }
        for (int what : new int[] {-1, 9, 10, Integer.MIN_VALUE, Integer.MAX_VALUE}) {
            CHECK.same("count(" + what + ")", y.count(what), -1);
            CHECK.same("count(" + what + ") without a LAND", x.count(what), -1);
        }
    }
}
