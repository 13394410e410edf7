/** Promises 1 to 6 and 32: a new object, the text, its FAULT, the LAND that comes of it, counts. */
final class TextTest {
    private static final String SMALL = "moon 5 0;sort a 1 1 1 1 1 1;";
    private static final Check CHECK = new Check();

    public static void main(String[] args) {
        newObject();
        feedAndEnd();
        faultsOfTokens();
        faultsOfLines();
        faultsOfNames();
        faultsOfKinds();
        faultsOfTooMany();
        landTakesThePlace();
        lotsBeginAnew();
        sortsAreTold();
        counts();
        CHECK.finish();
    }

    private static void newObject() {
        MoonDebts x = new MoonDebts();
        CHECK.same("NONE", MoonDebts.NONE, -1);
        for (int what = 0; what <= 8; what++) {
            CHECK.same("count(" + what + ") of a new object", x.count(what), 0);
        }
        CHECK.same("land() of a new object", x.land(), -1);
        CHECK.same("sort(0, 0) of a new object", x.sort(0, 0), -1);
        CHECK.same("back(0, 0, 0) of a new object", x.back(0, 0, 0), -1);
        CHECK.same("lent(-1, 0) of a new object", x.lent(-1, 0), -1);
        CHECK.same("brought(0) of a new object", x.brought(0), -1);
        CHECK.same("moon(0, 1, 0) of a new object", x.moon(0, 1, 0), -1);
        CHECK.same("best(0) of a new object", x.best(0), -1);
        CHECK.same("gains(0) of a new object", x.gains(0), -999999);
        CHECK.same("lend(1, 0, 1, 0) of a new object", x.lend(1, 0, 1, 0), -1);
        CHECK.same("go(1) of a new object", x.go(1), -1);
        CHECK.same("market(0) of a new object", x.market(0), -1);
        CHECK.same("market(10) of a new object", x.market(10), -1);
        CHECK.same("loan(0, 0) of a new object", x.loan(0, 0), -1);
        CHECK.same("entry(0, 1, 1000) of a new object", x.entry(0, 1, 1000), -1);
        CHECK.same("clear() of a new object", x.clear(), 0);
        CHECK.same("judge(-1) of a new object", x.judge(-1), -1);
        CHECK.same("round(0, -1) of a new object", x.round(0, -1), -1);
        CHECK.same("words(0, 0) of a new object", x.words(0, 0), -1);
        CHECK.same("purse(0, 0) of a new object", x.purse(0, 0), -1);
        CHECK.same("cloudy(1, 0) of a new object", x.cloudy(1, 0), -1);
        CHECK.no("image(0) of a new object", x.image(0));
        CHECK.no("on(0) of a new object", x.on(0));
        CHECK.yes("seed(5) of a new object", x.seed(5));
    }

    private static void feedAndEnd() {
        MoonDebts x = new MoonDebts();
        for (int i = 1; i <= 25; i++) {
            CHECK.same("feed " + i, x.feed(-1, 0, 1, Integer.MIN_VALUE, Integer.MAX_VALUE), 20 * i);
        }
        CHECK.same("feed 26", x.feed(0, 0, 0, 0, 0), -1);
        CHECK.same("count(8) when full", x.count(8), 500);
        CHECK.no("end(501)", x.end(501));
        CHECK.no("end(-1)", x.end(-1));
        CHECK.yes("end(500)", x.end(500));
        CHECK.yes("end(481)", x.end(481));
        CHECK.same("feed behind 481", x.feed(0, 0, 0, 0, 0), -1);
        CHECK.no("end(482)", x.end(482));
        CHECK.yes("end(480)", x.end(480));
        CHECK.same("feed behind 480", x.feed(0, 0, 0, 0, 0), 500);
        CHECK.yes("end(0)", x.end(0));
        CHECK.same("count(8) when empty", x.count(8), 0);
        // m o o n, the highest byte first, is a word, and all of it can stand: the text ends too early.
        x.feed('m' << 24 | 'o' << 16 | 'o' << 8 | 'n', 0x20202020, 0x0a0a0a0a, 0x20202020, 0x0a200a20);
        CHECK.same("fault of a lone word", x.fault(), 20);
    }

    private static void fault(String text, int due) {
        MoonDebts x = new MoonDebts();
        Check.text(x, text);
        CHECK.same("fault of " + text, x.fault(), due);
        CHECK.same("land of " + text, x.land() == -1 ? 1 : 0, due == -1 ? 0 : 1);
        CHECK.same("bytes left of " + text, x.count(8), due == -1 ? 0 : text.length());
    }

    private static void faultsOfTokens() {
        fault(SMALL, -1);
        fault("", 0);
        fault("   ", 3);
        fault("moon5 0;sort a1 1 1 1 1 1;", -1);
        fault("moon\n5\n0\n;\nsort\na 1 1 1 1 1 1 ;\n \n", -1);
        fault("moon 0005 000000000000000;sort a 1 1 1 1 1 00000000016;", -1);
        fault("moon 00031 0;", 5);
        fault("moon 99999999999999999999 0;", 5);
        fault("moon 4294967301 0;", 5);
        fault("moon\t5 0;", 4);
        fault("moon 5 0;\r\n", 9);
        fault("Moon 5 0;", 0);
        fault("moon 5 -1;", 7);
        fault(SMALL + "$", SMALL.length());
        fault(SMALL + "  " + (char) 233, SMALL.length() + 2);
        fault(SMALL + (char) 0, SMALL.length());
        fault("moon 5 99 $;", 7);
        fault("moon 5 $ 99;", 7);
        fault("moon5a 0;", 5);
        fault("moon 5a 0;", 6);
        fault(";", 0);
        fault("5", 0);
        fault(SMALL + ";", SMALL.length());
    }

    private static void faultsOfLines() {
        fault("moo 5 0;", 0);
        fault("moons 5 0;", 0);
        fault("moon 4 0;", 5);
        fault("moon 31 0;", 5);
        fault("moon 30 15;sort a 1 1 1 1 1 1;", -1);
        fault("moon 5 16;", 7);
        fault("moon 5 ;", 7);
        fault("moon 5 0 0;", 9);
        fault("moon 5 0", 8);
        fault("moon 5 0  ", 10);
        fault("moon 5 0;", 9);
        fault("sort a 1 1 1 1 1 1;", 19);
        fault("strike 16 9;" + SMALL, -1);
        fault("strike 17 1;", 7);
        fault("strike 0 0;", 9);
        fault("strike 0 10;", 9);
        fault("strike a 1;", 7);
        fault("wait 50;" + SMALL, -1);
        fault("wait 51;", 5);
        fault("wait ;", 5);
        fault("moon 5 0;sort a 50 99 99 60 99 16;", -1);
        fault("sort a 0 1 1 1 1 1;", 7);
        fault("sort a 51 1 1 1 1 1;", 7);
        fault("sort a 1 100 1 1 1 1;", 9);
        fault("sort a 1 1 100 1 1 1;", 11);
        fault("sort a 1 1 1 0 1 1;", 13);
        fault("sort a 1 1 1 61 1 1;", 13);
        fault("sort a 1 1 1 1 100 1;", 15);
        fault("sort a 1 1 1 1 1 17;", 17);
        fault("sort a 1 1 1 1 1;", 16);
        fault("sort a 1 1 1 1 1 1 1;", 19);
    }

    private static void faultsOfNames() {
        fault("sort 1 1 1 1 1 1 1;", 5);
        fault("sort abcdefghi 1 1 1 1 1 1;", 5);
        fault("moon 5 0;sort abcdefgh 1 1 1 1 1 1;", -1);
        fault("moon 5 0;sort zazz 1 1 1 1 1 1;", -1);
        for (String word : Oracle.LINES) {
            fault("sort " + word + " 1 1 1 1 1 1;", 5);
        }
        for (String word : Oracle.KINDS) {
            fault("sort " + word + " 1 1 1 1 1 1;", 5);
        }
        fault(SMALL + "sort a 1 1 1 1 1 1;", SMALL.length() + 5);
        fault(SMALL + "sort aa 1 1 1 1 1 1;sort ab 1 1 1 1 1 1;", -1);
        fault(SMALL + "sort ab 1 1 1 1 1 1;sort ab 1 1 1 1 1 1;", SMALL.length() + 25);
    }

    private static void faultsOfKinds() {
        fault("spare loan;spare pledge;spare sale;spare gift;spare purse;" + SMALL, -1);
        fault("spare loan;spare loan;", 17);
        fault("spare a;", 6);
        fault("spare moon;", 6);
        fault("spare loan pledge;", 11);
        fault("turn a loan 1;", 5);
        fault("turn loan a 1;", 10);
        fault("turn loan loan 1;", 10);
        fault("turn loan sale 100;", 15);
        fault("turn loan sale 99;turn sale loan 0;" + SMALL, -1);
        fault("turn loan sale 1;turn loan sale 2;", 27);
        fault("turn loan sale 1;turn loan gift 2;" + SMALL, -1);
    }

    private static void faultsOfTooMany() {
        fault(SMALL + "moon 5 0;", SMALL.length());
        fault("moon 5 0;moon", 9);
        fault("wait 0;wait 0;", 7);
        fault("strike 0 1;strike 0 1;", 11);
        String six = "moon 5 0;" + Check.sorts(6);
        fault(six, -1);
        fault(six + "sort a", six.length());
        String twelve = SMALL + Check.turns(12, 1);
        fault(twelve, -1);
        fault(twelve + "turn gift loan 1;", twelve.length());
    }

    private static void landTakesThePlace() {
        MoonDebts x = Check.landOf("moon 7 3;strike 2 4;spare gift;sort a 2 10 0 3 0 0;sort b 1 5 1 3 1 0;turn loan gift 1;");
        CHECK.same("lend(1, 0, 5, 0)", x.lend(1, 0, 5, 0), 0);
        CHECK.same("go(1)", x.go(1), 1);
        CHECK.same("entry(0, 1, 1000)", x.entry(0, 1, 1000), 1);
        CHECK.yes("image(0)", x.image(0));
        CHECK.yes("image(1)", x.image(1));
        CHECK.yes("image(2)", x.image(2));
        CHECK.yes("seed(99)", x.seed(99));
        Check.text(x, "moon 5 0;sort a");
        CHECK.same("land() with a FAULT", x.land(), -1);
        CHECK.same("the LAND ahead stays", x.count(2), 7);
        CHECK.same("its market stays", x.market(11), 5);
        CHECK.same("its BOOK stays", x.count(7), 1);
        CHECK.same("the text stays", x.count(8), 15);
        Check.text(x, SMALL);
        CHECK.same("fault() changes no LAND", x.fault(), -1);
        CHECK.same("the LAND ahead stays behind fault()", x.count(0), 2);
        CHECK.same("land()", x.land(), 1);
        CHECK.same("P", x.count(2), 5);
        CHECK.same("S without strike", x.count(4), 16);
        CHECK.same("E without strike", x.count(5), 1);
        CHECK.same("spared", x.count(6), 0);
        CHECK.same("TURNS", x.count(1), 0);
        CHECK.same("no BOOK", x.count(7), 0);
        CHECK.same("the text is empty", x.count(8), 0);
        CHECK.same("NIGHT", x.market(0), 0);
        CHECK.same("LOANS", x.market(1), 0);
        CHECK.same("heap", x.market(10), 1);
        CHECK.same("a heap of the LAND ahead", x.market(11), -1);
        CHECK.no("no image 0", x.on(0));
        CHECK.no("no image 1", x.on(1));
        CHECK.no("no image 2", x.on(2));
    }

    private static void lotsBeginAnew() {
        String text = "moon 5 8;strike 8 1;sort a 1 99 0 5 0 0;sort b 1 0 9 60 9 8;";
        MoonDebts x = Check.landOf("wait 9;" + text);
        x.seed(1234);
        x.go(50);
        Check.text(x, text);
        x.land();
        CHECK.same("no wait is told any more", x.back(1, 0, 1), Check.landOf(text).back(1, 0, 1));
        MoonDebts y = Check.landOf(text);
        for (int i = 0; i < 10; i++) {
            x.lend(1, 0, 9, 100);
            y.lend(1, 0, 9, 100);
            CHECK.same("go(5)", x.go(5), y.go(5));
            CHECK.same("LOST by lots from 0 on", x.market(3), y.market(3));
        }
    }

    private static void sortsAreTold() {
        MoonDebts x = Check.landOf("sort a 50 99 98 60 97 16;moon 30 15;sort b 1 2 3 4 5 6;");
        int[][] due = {{50, 99, 98, 60, 97, 16}, {1, 2, 3, 4, 5, 6}};
        for (int sort = 0; sort < 2; sort++) {
            for (int what = 0; what < 6; what++) {
                CHECK.same("sort(" + sort + ", " + what + ")", x.sort(sort, what), due[sort][what]);
            }
        }
        CHECK.same("sort(0, 6)", x.sort(0, 6), -1);
        CHECK.same("sort(0, -1)", x.sort(0, -1), -1);
        CHECK.same("sort(2, 0)", x.sort(2, 0), -1);
        CHECK.same("sort(-1, 0)", x.sort(-1, 0), -1);
    }

    private static void counts() {
        MoonDebts x = Check.landOf("moon 12 4;strike 9 3;sort a 1 9 1 1 1 1;sort b 1 1 1 1 1 1;spare loan;spare sale;"
            + "turn gift sale 3;turn pledge sale 2;turn sale loan 0;");
        x.entry(3, 1, 1000);
        x.entry(3, 1, 1000);
        x.feed(0, 0, 0, 0, 0);
        int[] due = {2, 3, 12, 4, 9, 3, 5, 2, 20};
        for (int what = 0; what < due.length; what++) {
            CHECK.same("count(" + what + ")", x.count(what), due[what]);
        }
        CHECK.same("count(9)", x.count(9), -1);
        CHECK.same("count(-1)", x.count(-1), -1);
    }
}
