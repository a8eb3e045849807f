/** Promises 1 to 35, sentence by sentence: what each call answers, at its edges and when it is refused. */
final class EdgesOfCalls {
    private static final int MAX = Integer.MAX_VALUE;
    private static final int MIN = Integer.MIN_VALUE;
    private static final String FAIR = Check.FAIR;
    private static final String NOTHING_TOLD = "need 0 debt 0 rate 0;";
    /** One PROVINCE, one TRICK, one WATCHER; its images have 14 bytes. */
    private static final String SMALL = "need 1 debt 0 rate 0;stores p 9 yields 9;trick t takes 5 from p look 0;"
        + "watch w seat 3 glass 1;";

    private EdgesOfCalls() { }

    static void run() {
        calls();
        constants();
        promise1();
        promise2();
        promise3();
        promise4();
        promise5();
        promise6();
        promise7();
        promises8To11();
        promise12();
        promise13();
        promise14();
        promise15();
        promise16();
        promise17();
        promise18();
        promise19();
        promise20();
        promise21();
        promise22();
        promise23();
        promise24();
        promise25();
        promise26();
        promise27();
        promise28();
        promise29();
        promise30();
        promise31();
        promises32And33();
        promise34();
        promise35();
    }

    /** What SMALL is in, by an image. */
    private static EmptyHat small(int year, int debt, int belief, int store, int shown, int known) {
        EmptyHat x = Check.crowned(SMALL);
        put(x, year, debt, belief, store, shown, known);
        return x;
    }

    private static void put(EmptyHat x, int year, int debt, int belief, int store, int shown, int known) {
        Check.on(x, Check.imageOf(year >> 8, year & 255, debt >> 16, debt >> 8 & 255, debt & 255, belief, store >> 8,
            store & 255, shown >> 8, shown & 255, known >> 8, known & 255, 3));
    }

    private static void calls() {
        Edge.says("What it is", "An object is used for at most 512 calls after it has been made");
        EmptyHat x = new EmptyHat();
        for (int i = 1; i < 512; i++) {
            x.undo();
        }
        Edge.due("the 512th call", x.status(4), 511);
        x = new EmptyHat();
        for (int i = 1; i < 512; i++) {
            x.feed(0, 0, 0, 0, 0);
        }
        Edge.due("the 512th call", x.status(0), 431);
    }

    private static void constants() {
        Edge.says("Constants", "The constants: `NONE = -1`: There is none; it is refused.");
        Edge.due("NONE", EmptyHat.NONE, -1);
        Edge.says("Constants", "`NOTHING = -1000000000000000L`: Told where a number below 0 may be one.");
        Edge.due("NOTHING", EmptyHat.NOTHING, -1000000000000000L);
    }

    private static void promise1() {
        Edge.says("Promise 1", "No crown, no tricks.");
        EmptyHat x = new EmptyHat();
        for (int what = 0; what <= 10; what++) {
            Edge.due("has(" + what + ")", x.has(what), 0);
        }
        Edge.due("trick(0, 0)", x.trick(0, 0), -1);
        Edge.due("best(0)", x.best(0), -1);
        Edge.due("years(1)", x.years(1), -1);
        Edge.due("end(1)", x.end(1), false);
    }

    private static void promise2() {
        Edge.says("Promise 2", "Twenty bytes come behind those on the tape, of each number the highest first");
        EmptyHat x = new EmptyHat();
        // need 1 debt 2 rate 3; and blanks
        x.feed(0x6e656564, 0x20312064, 0x65627420, 0x32207261, 0x74652033);
        x.feed(0x3b202020, 0x20202020, 0x20202020, 0x20202020, 0x20202020);
        Edge.due("crown()", x.crown(), 1);
        Edge.due("has(4)", x.has(4), 2);
        // A byte above 127 is one, too, and has no sign.
        x = Check.crowned("need 0 debt 0 rate 0;stores p 255 yields 0;");
        x.feed(0x0000ff80, -1, -1, -1, -1);
        x.end(3);
        Edge.due("count() of 0 0 255", x.count(), 1);
        Edge.due("shows(0)", x.shows(0), 1);

        Edge.says("Promise 2", "how many there are");
        x = new EmptyHat();
        Edge.due("feed", x.feed(0, 0, 0, 0, 0), 20);
        Edge.due("feed", x.feed(-1, MAX, MIN, 0, 1), 40);
        x.end(7);
        Edge.due("feed behind 7", x.feed(0, 0, 0, 0, 0), 27);

        Edge.says("Promise 2", "NONE, refused (0), if there would be more than 1600.");
        x = new EmptyHat();
        for (int i = 1; i <= 80; i++) {
            Edge.due("feed " + i, x.feed(0x20202020, 0, 0, 0, 0), 20 * i);
        }
        Edge.due("status(0)", x.status(0), 0);
        Edge.due("1620", x.feed(0, 0, 0, 0, 0), -1);
        Edge.due("status(0)", x.status(0), 1);
        Edge.due("the tape stays", x.end(1600), true);
        x.end(1581);
        Edge.due("1601", x.feed(0, 0, 0, 0, 0), -1);
        Edge.due("the tape stays", x.end(1582), false);
        x.end(1580);
        Edge.due("1600", x.feed(0, 0, 0, 0, 0), 1600);
        Edge.due("status(0)", x.status(0), 3);
    }

    private static void promise3() {
        Edge.says("Promise 3", "The tape has its first n bytes alone: true");
        EmptyHat x = new EmptyHat();
        Edge.due("end(0) of nothing", x.end(0), true);
        x.feed(0x6e656564, 0x20312064, 0x65627420, 0x32207261, 0x74652033);
        x.feed(0x3b787878, 0, 0, 0, 0);
        Edge.due("end(40) of 40", x.end(40), true);
        Edge.due("end(21)", x.end(21), true);
        Edge.due("crown()", x.crown(), 1);
        x.feed(0, 0, 0, 0, 0);
        Edge.due("end(0)", x.end(0), true);
        Edge.due("feed", x.feed(0, 0, 0, 0, 0), 20);
        Edge.due("status(0)", x.status(0), 0);
        // What was behind them is not read, were it of the same word or number.
        EmptyHat cut = Check.crowned(FAIR);
        Check.tape(cut, "total 55");
        Edge.due("end(7)", cut.end(7), true);
        Edge.due("ask() of total 5", cut.ask(), 15);
        Check.tape(cut, "often allall");
        Edge.due("end(9)", cut.end(9), true);
        Edge.due("ask() of often all", cut.ask(), 3);
        Check.tape(cut, "total 5+5");
        Edge.due("end(7)", cut.end(7), true);
        Edge.due("ask() of total 5", cut.ask(), 15);

        Edge.says("Promise 3", "false, refused (0), if it has not so many,");
        Edge.due("end(21) of 20", x.end(21), false);
        Edge.due("end(MAX)", x.end(MAX), false);
        Edge.due("the tape stays", x.end(20), true);
        Edge.due("status(0)", x.status(0), 2);
        Edge.due("end(1) of nothing", new EmptyHat().end(1), false);

        Edge.says("Promise 3", "or n is below 0.");
        Edge.due("end(-1)", x.end(-1), false);
        Edge.due("end(MIN)", x.end(MIN), false);
        Edge.due("the tape stays", x.end(20), true);
        Edge.due("status(0)", x.status(0), 4);
    }

    /** FAIR behind years: something is kept, counted, and can be undone. */
    private static EmptyHat aged() {
        EmptyHat x = Check.crowned(FAIR);
        x.years(7);
        x.sit(0, 9);
        Check.count(x, 0, 0, 5, 1, 0, 40);
        return x;
    }

    private static void promise4() {
        Edge.says("Promise 4", "The tape (it goes) is THE CROWN: how many STATEMENTS");
        EmptyHat x = new EmptyHat();
        Edge.due("crown()", Check.crown(x, FAIR), 12);
        Edge.due("the tape is gone", x.end(1), false);
        Edge.due("crown() of one", Check.crown(x, NOTHING_TOLD), 1);
        Edge.due("crown() of sixty", Check.crown(x, NOTHING_TOLD + "boys 1;".repeat(59)), 60);

        Edge.says("Promise 4", "NONE, refused (1), with a FAULT");
        x = new EmptyHat();
        Edge.due("crown() with a FAULT", Check.crown(x, FAIR + "boys 101;"), -1);
        Edge.due("status(1)", x.status(1), 1);
        Edge.due("the tape is gone", x.end(1), false);
        Edge.due("best(0): there is no crown", x.best(0), -1);

        Edge.says("Promise 4", "(all stays;");
        x = aged();
        String before = Edge.all(x);
        Edge.due("crown() with a FAULT at its end", Check.crown(x, SMALL + "sees 3;loses 3;boys 9;belief 9;;"), -1);
        Edge.same("all", Edge.all(x), before);
        Edge.due("undo()", x.undo(), true);

        Edge.says("Promise 4", "one without a STATEMENT has FAULT 1 at its length)");
        Edge.crownFault(1, "^");
        Edge.crownFault(1, " ^");
        Edge.crownFault(1, " \n\n ^");
        Edge.crownFault(1, " ".repeat(1600) + "^");

        Edge.says("Promise 4", "Without one all is as at first");
        x = aged();
        Edge.due("crown()", Check.crown(x, FAIR), 12);
        Edge.same("all", Edge.all(x), Edge.all(Check.crowned(FAIR)));

        Edge.says("Promise 4", "nothing is KEPT, COUNTED or can be undone");
        x = aged();
        Edge.due("KEPT, COUNTED, ACTS", x.has(8) * 100 + x.has(9) * 10 + x.has(10), 322);
        Check.crown(x, FAIR);
        Edge.due("KEPT, COUNTED, ACTS", x.has(8) * 100 + x.has(9) * 10 + x.has(10), 0);
        Edge.due("kept(0, 0)", x.kept(0, 0), -1);
        Edge.due("shows(0)", x.shows(0), 8);
        Edge.due("undo()", x.undo(), false);

        Edge.says("Promise 4", "the seed stays.");
        // By the seed 1: 18 of 100, the only TRICK, 26 of 100.
        x = Check.crowned(SMALL + "boys 19;");
        Edge.due("chance(1)", x.chance(1), 1);
        Check.crown(x, SMALL + "boys 19;");
        Edge.due("chance(1)", x.chance(1), 0);
        x = new EmptyHat();
        x.seed(0);
        Check.crown(x, SMALL + "boys 92;");
        Edge.due("chance(1): 92 is not below 92", x.chance(1), 0);
    }

    private static void promise5() {
        Edge.says("Promise 5", "Of the latest crown() or ask(): its FAULT (what 0; 0 without, and ahead of any)");
        EmptyHat x = new EmptyHat();
        Edge.due("fault(0) ahead of any", x.fault(0), 0);
        Check.crown(x, "need 1 debt 1 rate 100;");
        Edge.due("fault(0)", x.fault(0), 2);
        Check.crown(x, FAIR);
        Edge.due("fault(0) without", x.fault(0), 0);
        Check.ask(x, "total ((((((((1");
        Edge.due("fault(0)", x.fault(0), 4);
        Check.count(x, 9);
        Check.on(x, 9);
        x.show(99);
        Edge.due("fault(0) stays", x.fault(0), 4);
        Check.ask(x, "total 1");
        Edge.due("fault(0) without", x.fault(0), 0);

        Edge.says("Promise 5", "its place (1; NONE without).");
        x = new EmptyHat();
        Edge.due("fault(1) ahead of any", x.fault(1), -1);
        Check.crown(x, "x");
        Edge.due("fault(1)", x.fault(1), 0);
        Check.crown(x, " ".repeat(1599) + "x");
        Edge.due("fault(1)", x.fault(1), 1599);
        Check.crown(x, FAIR);
        Edge.due("fault(1) without", x.fault(1), -1);
        Check.ask(x, "total 1;");
        Edge.due("fault(1)", x.fault(1), 7);

        Edge.says("Promise 5", "NONE for another what.");
        int[] others = {-1, 2, 3, MAX, MIN};
        for (int what : others) {
            Edge.due("fault(" + what + ")", x.fault(what), -1);
        }
    }

    private static void promise6() {
        Edge.says("Promise 6", "How many there are: 0 PROVINCES, 1 TRICKS, 2 WATCHERS, 3 YEAR, 4 debt, 5 BELIEF (0 without"
            + " a crown), 6 TRICKS SEEN THROUGH, 7 what is in all stores, 8 what is told as KEPT, 9 rows COUNTED, 10 ACTS"
            + " that can be undone.");
        EmptyHat x = aged();
        int[] due = {2, 3, 2, 7, 394, 10, 3, 30, 3, 2, 2};
        for (int what = 0; what < due.length; what++) {
            Edge.due("has(" + what + ")", x.has(what), due[what]);
            Edge.due("has(" + what + ") without a crown", new EmptyHat().has(what), 0);
        }

        Edge.says("Promise 6", "NONE for others.");
        int[] others = {-1, 11, 12, MAX, MIN};
        for (int what : others) {
            Edge.due("has(" + what + ")", x.has(what), -1);
        }
    }

    private static void promise7() {
        EmptyHat x = Check.crowned(NOTHING_TOLD + "stores abcdez 0 yields 0;trick ab takes 1 from abcdez look 0;"
            + "watch z seat 0 glass 0;watch yx seat 0 glass 0;");
        Edge.says("Promise 7", "Letter k (0 .. 5) of the NAME of a PROVINCE (kind 0), a TRICK (1), a WATCHER (2): 1 .. 26");
        int[] abcdez = {1, 2, 3, 4, 5, 26};
        for (int k = 0; k < 6; k++) {
            Edge.due("letter(0, 0, " + k + ")", x.letter(0, 0, k), abcdez[k]);
        }
        Edge.due("letter(1, 0, 1)", x.letter(1, 0, 1), 2);
        Edge.due("letter(2, 0, 0)", x.letter(2, 0, 0), 26);
        Edge.due("letter(2, 1, 1)", x.letter(2, 1, 1), 24);

        Edge.says("Promise 7", "0 behind it");
        Edge.due("letter(1, 0, 2)", x.letter(1, 0, 2), 0);
        Edge.due("letter(1, 0, 5)", x.letter(1, 0, 5), 0);
        Edge.due("letter(2, 0, 1)", x.letter(2, 0, 1), 0);

        Edge.says("Promise 7", "NONE when there is none such.");
        int[][] none = {{0, 0, 6}, {0, 0, -1}, {0, 0, MAX}, {0, 0, MIN}, {0, 1, 0}, {0, -1, 0}, {1, 1, 0}, {2, 2, 0},
            {3, 0, 0}, {-1, 0, 0}, {MAX, 0, 0}, {MIN, 0, 0}, {0, MAX, 0}, {0, MIN, 0}};
        for (int[] n : none) {
            Edge.due("letter(" + n[0] + ", " + n[1] + ", " + n[2] + ")", x.letter(n[0], n[1], n[2]), -1);
        }
        Edge.due("letter(0, 0, 0) without a crown", new EmptyHat().letter(0, 0, 0), -1);
        Check.crown(x, NOTHING_TOLD);
        Edge.due("letter(0, 0, 0) of a crown that has gone", x.letter(0, 0, 0), -1);
    }

    private static void promises8To11() {
        EmptyHat x = Check.crowned(FAIR);
        int[] out = {-1, 3, 6, MAX, MIN};
        Edge.says("Promise 8", "Of a PROVINCE: 0 its store, 1 its yields, 2 TRICKS that take from it, as bits.");
        table("province", new int[][] {{50, 20, 5}, {30, 10, 2}}, (i, what) -> x.province(i, what));
        EmptyHat y = Check.crowned("need 0 debt 0 rate 0;stores p 0 yields 0;");
        Edge.due("province(0, 2) without TRICKS", y.province(0, 2), 0);
        Edge.says("Promise 8", "NONE when there is none such, or for others.");
        none("province", out, (i, what) -> x.province(i, what), 2, 3);
        Edge.due("without a crown", new EmptyHat().province(0, 0), -1);

        Edge.says("Promise 9", "Of a TRICK: 0 what it takes, 1 its PROVINCE, 2 look, 3 how often SHOWN (9999 at most), 4 by"
            + " how much KNOWN, 5 its SIGHT now.");
        table("trick", new int[][] {{40, 0, 3, 0, 0, 10}, {30, 1, 7, 0, 0, 26}, {25, 0, 1, 0, 0, 2}},
            (i, what) -> x.trick(i, what));
        EmptyHat z = small(5, 0, 50, 9, 9998, 7);
        z.show(1);
        Edge.due("trick(0, 3), one more than 9998", z.trick(0, 3), 9999);
        Edge.due("trick(0, 4)", z.trick(0, 4), 8);
        z.show(1);
        Edge.due("trick(0, 3) at most", z.trick(0, 3), 9999);
        Edge.due("trick(0, 4)", z.trick(0, 4), 9);
        z.years(1);
        Edge.due("trick(0, 3) at most, by years", z.trick(0, 3), 9999);
        Edge.says("Promise 9", "NONE when there is none such, or for others.");
        none("trick", out, (i, what) -> x.trick(i, what), 3, 6);
        Edge.due("without a crown", new EmptyHat().trick(0, 0), -1);

        Edge.says("Promise 10", "Of a WATCHER: 0 seat, 1 glass, 2 his SIGHT of all TRICKS together now.");
        table("watcher", new int[][] {{2, 4, 38}, {8, 1, 0}}, (i, what) -> x.watcher(i, what));
        Edge.due("watcher(0, 2) without TRICKS",
            Check.crowned(NOTHING_TOLD + "watch w seat 9 glass 9;").watcher(0, 2), 0);
        Edge.says("Promise 10", "NONE when there is none such, or for others.");
        none("watcher", out, (i, what) -> x.watcher(i, what), 2, 3);
        Edge.due("without a crown", new EmptyHat().watcher(0, 0), -1);

        Edge.says("Promise 11", "SIGHT of a TRICK by a WATCHER now");
        EmptyHat v = Check.crowned(FAIR);
        table("sight", new int[][] {{10, 0}, {26, 0}, {2, 0}}, (t, w) -> v.sight(t, w));
        v.sit(1, 0);
        Edge.due("sight(1, 1) from another seat", v.sight(1, 1), 7);
        v.show(2);
        Edge.due("sight(1, 1) behind a SHOW", v.sight(1, 1), 17);
        Edge.says("Promise 11", "NONE when there are none such.");
        none("sight", out, (t, w) -> v.sight(t, w), 3, 2);
        Edge.due("without a crown", new EmptyHat().sight(0, 0), -1);
        Edge.due("without WATCHERS", Check.crowned("need 0 debt 0 rate 0;stores p 0 yields 0;"
            + "trick t takes 1 from p look 0;").sight(0, 0), -1);
    }

    private interface OfTwo {
        int answer(int a, int b);
    }

    private static void table(String call, int[][] due, OfTwo got) {
        for (int i = 0; i < due.length; i++) {
            for (int what = 0; what < due[i].length; what++) {
                Edge.due(call + "(" + i + ", " + what + ")", got.answer(i, what), due[i][what]);
            }
        }
    }

    /** Of so many, and of so many columns of each: NONE beyond. */
    private static void none(String call, int[] out, OfTwo got, int many, int columns) {
        for (int i : out) {
            if (i < 0 || i >= many) {
                Edge.due(call + "(" + i + ", 0)", got.answer(i, 0), -1);
            }
            if (i < 0 || i >= columns) {
                Edge.due(call + "(0, " + i + ")", got.answer(0, i), -1);
            }
        }
        Edge.due(call + "(" + many + ", 0)", got.answer(many, 0), -1);
        Edge.due(call + "(0, " + columns + ")", got.answer(0, columns), -1);
        Edge.due(call + " of the last", got.answer(many - 1, columns - 1) >= 0, true);
    }

    private static void promise12() {
        EmptyHat x = Check.crowned("need 0 debt 0 rate 0;stores p 9 yields 9;trick a takes 1 from p look 0;"
            + "trick b takes 1 from p look 0;watch v seat 0 glass 0;watch w seat 0 glass 0;sees 50;loses 3;");
        x.show(0);
        x.show(2);
        x.show(1);
        Edge.says("Promise 12", "Of what is told as KEPT, the k-th from the oldest on: 0 YEAR, 1 TRICK, 2 BELIEF.");
        table("kept", new int[][] {{1, 1, 47}, {2, 0, 44}}, (k, what) -> x.kept(k, what));
        Edge.says("Promise 12", "NONE when there is none such, or for others.");
        none("kept", new int[] {-1, 2, 3, 29, 30, MAX, MIN}, (k, what) -> x.kept(k, what), 2, 3);
        Edge.due("without a crown", new EmptyHat().kept(0, 0), -1);
        Edge.due("when nothing is KEPT", Check.crowned(FAIR).kept(0, 0), -1);
    }

    private static void promise13() {
        EmptyHat x = Check.crowned("need 5 debt 0 rate 0;stores p 0 yields 7;trick t takes 9 from p look 0;"
            + "watch w seat 0 glass 3;");
        Edge.says("Promise 13", "The BEST SHOW of this YEAR, its yields come: the set, as bits (what 0), what APPEARS (1), its"
            + " SIGHT together (2).");
        Edge.due("best(0)", x.best(0), 1);
        Edge.due("best(1)", x.best(1), 7);
        Edge.due("best(2)", x.best(2), 3);
        Edge.due("nothing has changed", x.province(0, 0) + x.trick(0, 3) + x.trick(0, 4) + x.has(3), 0);
        EmptyHat full = Check.crowned("need 5 debt 0 rate 0;stores p 9998 yields 7;trick t takes 9 from p look 0;");
        Edge.due("best(1) of a full store", full.best(1), 9);
        Edge.due("best(0) in YEAR 999", small(999, 0, 50, 9, 0, 0).best(0), 1);
        Edge.due("best(0) without TRICKS", Check.crowned("need 1 debt 0 rate 0;").best(0), 0);

        Edge.says("Promise 13", "NONE for others, or without a crown.");
        int[] others = {-1, 3, MAX, MIN};
        for (int what : others) {
            Edge.due("best(" + what + ")", x.best(what), -1);
        }
        for (int what = 0; what < 3; what++) {
            Edge.due("best(" + what + ") without a crown", new EmptyHat().best(what), -1);
        }
    }

    private static void promise14() {
        EmptyHat x = Check.crowned("need 5 debt 0 rate 0;stores p 2 yields 7;trick a takes 6 from p look 0;"
            + "trick b takes 6 from p look 0;watch w seat 0 glass 3;");
        Edge.says("Promise 14", "What APPEARS by a SHOW in this YEAR, its yields come;");
        Edge.due("appears(0)", x.appears(0), 0);
        Edge.due("appears(1)", x.appears(1), 6);
        Edge.due("appears(3)", x.appears(3), 9);
        Edge.due("nothing has changed", x.province(0, 0), 2);
        Edge.due("appears(1) in YEAR 999", small(999, 0, 50, 9, 0, 0).appears(1), 5);

        Edge.says("Promise 14", "NONE when it can't be given (a TRICK SEEN THROUGH,");
        Edge.due("appears(1), KNOWN by 99", small(0, 0, 50, 9, 0, 99).appears(1), 5);
        Edge.due("appears(1), KNOWN by 100", small(0, 0, 50, 9, 0, 100).appears(1), -1);
        Edge.due("appears(0), KNOWN by 100", small(0, 0, 50, 9, 0, 100).appears(0), 0);

        Edge.says("Promise 14", "the CURTAIN down and it is not empty,");
        Edge.due("appears(1), BELIEF 1", small(0, 0, 1, 9, 0, 0).appears(1), 5);
        Edge.due("appears(1), BELIEF 0", small(0, 0, 0, 9, 0, 0).appears(1), -1);
        Edge.due("appears(0), BELIEF 0", small(0, 0, 0, 9, 0, 0).appears(0), 0);

        Edge.says("Promise 14", "there are none such),");
        int[] none = {4, 5, 7, 32, 63, 64, 65, -1, -4, MAX, MIN, MIN + 1};
        for (int show : none) {
            Edge.due("appears(" + show + ")", x.appears(show), -1);
        }
        Edge.due("appears(1) without TRICKS", Check.crowned(NOTHING_TOLD).appears(1), -1);
        Edge.due("appears(0) without TRICKS", Check.crowned(NOTHING_TOLD).appears(0), 0);

        Edge.says("Promise 14", "or without a crown.");
        Edge.due("appears(0)", new EmptyHat().appears(0), -1);
        Edge.due("appears(1)", new EmptyHat().appears(1), -1);
    }

    private static void promise15() {
        EmptyHat x = Check.crowned(FAIR);
        Edge.says("Promise 15", "Behind n YEARS AHEAD (0 .. 60): 0 debt, 1 BELIEF, 2 TRICKS SEEN THROUGH, as bits, 3 what is"
            + " in all stores.");
        int[] years = {0, 1, 4, 7};
        int[][] due = {{100, 40, 0, 80}, {104, 40, 0, 45}, {188, 31, 2, 0}, {394, 10, 7, 30}};
        for (int i = 0; i < years.length; i++) {
            for (int what = 0; what < 4; what++) {
                Edge.due("later(" + years[i] + ", " + what + ")", x.later(years[i], what), due[i][what]);
            }
        }
        EmptyHat y = Check.crowned("need 1 debt 0 rate 0;stores p 0 yields 2;");
        Edge.due("later(60, 0)", y.later(60, 0), 60);
        Edge.due("later(60, 3)", y.later(60, 3), 120);

        Edge.says("Promise 15", "NONE when n can't be,");
        int[] wrong = {-1, 61, 999, MAX, MIN};
        for (int n : wrong) {
            Edge.due("later(" + n + ", 0)", y.later(n, 0), -1);
        }
        EmptyHat last = small(998, 7, 50, 9, 0, 0);
        Edge.due("later(1, 1) in YEAR 998", last.later(1, 1), 50);
        Edge.due("later(2, 1) in YEAR 998", last.later(2, 1), -1);
        put(last, 999, 7, 50, 9, 0, 0);
        Edge.due("later(0, 0) in YEAR 999", last.later(0, 0), 7);
        Edge.due("later(1, 0) in YEAR 999", last.later(1, 0), -1);

        Edge.says("Promise 15", "without a crown,");
        Edge.due("later(0, 0)", new EmptyHat().later(0, 0), -1);
        Edge.due("later(1, 1)", new EmptyHat().later(1, 1), -1);

        Edge.says("Promise 15", "or for others.");
        int[] others = {-1, 4, MAX, MIN};
        for (int what : others) {
            Edge.due("later(0, " + what + ")", x.later(0, what), -1);
            Edge.due("later(60, " + what + ")", x.later(60, what), -1);
        }
    }

    private static void promise16() {
        // Seen through by its second SHOW; then BELIEF is 0.
        String two = "need 5 debt 0 rate 0;stores p 900 yields 9;trick t takes 9 from p look 0;watch w seat 0 glass 9;"
            + "sees 50;loses 99;belief 40;";
        EmptyHat x = Check.crowned(two);
        Edge.says("Promise 16", "Behind how many YEARS AHEAD the CURTAIN is down first (0: now)");
        Edge.due("curtain()", x.curtain(), 2);
        x.show(0);
        Edge.due("curtain() behind an empty SHOW", x.curtain(), 2);
        x.show(1);
        Edge.due("curtain()", x.curtain(), 1);
        x.show(1);
        Edge.due("curtain()", x.curtain(), 0);
        x.show(0);
        Edge.due("curtain() later on", x.curtain(), 0);
        x = Check.crowned(two.replace("sees 50", "sees 1"));
        x.years(40);
        Edge.due("curtain() in 60", x.curtain(), 60);
        Edge.due("curtain() down in YEAR 999", small(999, 0, 0, 9, 0, 0).curtain(), 0);

        Edge.says("Promise 16", "NONE when it is not, or without a crown.");
        x.undo();
        x.years(39);
        Edge.due("curtain() in 61", x.curtain(), -1);
        Edge.due("curtain() never", Check.crowned(FAIR).curtain(), -1);
        Edge.due("curtain() in YEAR 999", small(999, 0, 1, 9, 0, 0).curtain(), -1);
        // It would fall in YEAR 1000; in YEAR 998 it falls just in time.
        String soon = SMALL + "sees 99;loses 99;";
        for (int year = 998; year <= 999; year++) {
            x = Check.crowned(soon);
            put(x, year, 0, 50, 9, 0, 99);
            Edge.due("curtain() in YEAR " + year, x.curtain(), year == 998 ? 1 : -1);
        }
        Edge.due("without a crown", new EmptyHat().curtain(), -1);
    }

    private static void promise17() {
        EmptyHat x = Check.crowned(FAIR);
        Edge.says("Promise 17", "BOTH: the first SHOW, the second one (what 0, 1; bits), the debt (2), BELIEF (3) behind"
            + " them.");
        int[] due = {7, 3, 94, 40};
        for (int what = 0; what < 4; what++) {
            Edge.due("both(" + what + ")", x.both(what), due[what]);
        }
        Edge.due("nothing has changed", x.has(3) + x.has(10), 0);
        EmptyHat none = Check.crowned("need 1 debt 0 rate 0;");
        Edge.due("both(0) without TRICKS", none.both(0), 0);
        Edge.due("both(2) without TRICKS", none.both(2), 2);
        pair(small(0, 9, 50, 9, 0, 99), 0, 1, 6, 40);
        pair(small(0, 9, 50, 9, 0, 100), 0, 0, 11, 50);
        pair(small(0, 9, 1, 9, 0, 0), 1, 1, 1, 1);
        pair(small(0, 9, 0, 9, 0, 0), 0, 0, 11, 0);
        EmptyHat owing = small(0, 9, 50, 9, 0, 0);
        pair(owing, 1, 1, 1, 50);
        put(owing, 0, 99999, 0, 9, 0, 0);
        pair(owing, 0, 0, 99999, 0);

        Edge.says("Promise 17", "NONE beyond YEAR 999,");
        Edge.due("both(2) in YEAR 997", small(997, 9, 50, 9, 0, 0).both(2), 1);
        for (int what = 0; what < 4; what++) {
            Edge.due("both(" + what + ") in YEAR 998", small(998, 9, 50, 9, 0, 0).both(what), -1);
            Edge.due("both(" + what + ") in YEAR 999", small(999, 9, 50, 9, 0, 0).both(what), -1);
        }

        Edge.says("Promise 17", "without a crown, or for others.");
        Edge.due("both(0) without a crown", new EmptyHat().both(0), -1);
        Edge.due("both(3) without a crown", new EmptyHat().both(3), -1);
        int[] others = {-1, 4, MAX, MIN};
        for (int what : others) {
            Edge.due("both(" + what + ")", x.both(what), -1);
        }
    }

    private static void pair(EmptyHat x, int... due) {
        for (int what = 0; what < due.length; what++) {
            Edge.due("both(" + what + ")", x.both(what), due[what]);
        }
    }

    private static void promise18() {
        EmptyHat x = Check.crowned("need 1 debt 60 rate 0;stores p 999 yields 0;trick t takes 2 from p look 0;");
        Edge.says("Promise 18", "To DROP the CURTAIN within n YEARS AHEAD (0 .. 60): behind how many");
        Edge.due("drop(0)", x.drop(0), 0);
        Edge.due("drop(1)", x.drop(1), 1);
        Edge.due("drop(59)", x.drop(59), 59);
        Edge.due("drop(60)", x.drop(60), 60);
        Edge.due("drop(0) in YEAR 999", small(999, 9, 50, 9, 0, 0).drop(0), 0);

        Edge.says("Promise 18", "NONE when n can't be, or without a crown.");
        int[] wrong = {-1, 61, MAX, MIN};
        for (int n : wrong) {
            Edge.due("drop(" + n + ")", x.drop(n), -1);
        }
        Edge.due("drop(1) in YEAR 998", small(998, 9, 50, 9, 0, 0).drop(1), 1);
        Edge.due("drop(2) in YEAR 998", small(998, 9, 50, 9, 0, 0).drop(2), -1);
        Edge.due("drop(1) in YEAR 999", small(999, 9, 50, 9, 0, 0).drop(1), -1);
        Edge.due("without a crown", new EmptyHat().drop(0), -1);
    }

    private static void promise19() {
        EmptyHat x = Check.crowned(FAIR);
        Edge.says("Promise 19", "The tape (it goes) tells what is COUNTED, 1 to 16 rows of three bytes, PROVINCE, store (two"
            + " bytes): how many rows");
        Edge.due("one row", Check.count(x, 0, 0, 5), 1);
        Edge.due("the tape is gone", x.end(1), false);
        Edge.due("has(9)", x.has(9), 1);
        Edge.due("sixteen rows", Check.count(x, new int[48]), 16);
        Edge.due("has(9)", x.has(9), 16);
        Edge.due("rows in place of those", Check.count(x, 1, 0, 10, 0, 0, 5), 2);
        Edge.due("has(9)", x.has(9), 2);
        Edge.due("shows(0)", x.shows(0), 1);
        Edge.due("a store of 65535", Check.count(x, 1, 255, 255), 1);
        Edge.due("shows(0)", x.shows(0), 0);

        Edge.says("Promise 19", "NONE, refused (1), all staying, when it is none such.");
        Check.count(x, 1, 0, 10, 0, 0, 5);
        int[][] wrong = {{}, {0}, {0, 0}, {0, 0, 5, 0}, {0, 0, 5, 0, 0}, new int[47], new int[49], new int[51],
            {2, 0, 0}, {255, 0, 0}, {1, 0, 10, 2, 0, 0}, {2, 0, 0, 1, 0, 10}};
        for (int i = 0; i < wrong.length; i++) {
            Edge.due("count() of " + wrong[i].length + " bytes", Check.count(x, wrong[i]), -1);
            Edge.due("status(1)", x.status(1), i + 1);
            Edge.due("the tape is gone", x.end(1), false);
            Edge.due("has(9)", x.has(9), 2);
            Edge.due("shows(1)", x.shows(1), 7);
        }
        Edge.due("without a crown", Check.count(new EmptyHat(), 0, 0, 0), -1);
        Edge.due("without PROVINCES", Check.count(Check.crowned(NOTHING_TOLD), 0, 0, 0), -1);
    }

    private static void promise20() {
        EmptyHat x = Check.crowned(FAIR);
        Edge.says("Promise 20", "SHOWS by what is COUNTED (all that can be given, if nothing is): how many (what 0), TRICKS in"
            + " all of them, as bits (1;");
        Edge.due("shows(0)", x.shows(0), 8);
        Edge.due("shows(1)", x.shows(1), 0);
        Check.count(x, 0, 0, 5);
        Edge.due("shows(0), west 5", x.shows(0), 2);
        Edge.due("shows(1), west 5", x.shows(1), 5);
        Edge.due("shows(0) without TRICKS", Check.crowned(NOTHING_TOLD).shows(0), 1);
        Edge.due("shows(1) without TRICKS", Check.crowned(NOTHING_TOLD).shows(1), 0);
        Edge.due("shows(0), one SEEN THROUGH", small(0, 0, 50, 9, 0, 100).shows(0), 1);
        Edge.due("shows(0), the CURTAIN down", small(0, 0, 0, 9, 0, 0).shows(0), 1);

        Edge.says("Promise 20", "0 without),");
        Check.count(x, 0, 0, 6);
        Edge.due("shows(0), west 6", x.shows(0), 0);
        Edge.due("shows(1), west 6", x.shows(1), 0);
        Edge.due("shows(2), west 6", x.shows(2), 0);

        Edge.says("Promise 20", "in some (2).");
        Check.count(x, 1, 0, 10);
        Edge.due("shows(2), east 10", x.shows(2), 7);
        Check.count(x, 1, 0, 40, 0, 0, 70);
        Edge.due("shows(2), nothing taken", x.shows(2), 0);
        Check.count(x, 1, 0, 40);
        Edge.due("shows(2), east 40", x.shows(2), 5);
        EmptyHat alike = Check.crowned("need 0 debt 0 rate 0;stores p 9 yields 0;trick a takes 3 from p look 0;"
            + "trick b takes 3 from p look 0;");
        Check.count(alike, 0, 0, 6);
        Edge.due("shows(0), one or the other", alike.shows(0), 2);
        Edge.due("shows(1), one or the other", alike.shows(1), 0);
        Edge.due("shows(2), one or the other", alike.shows(2), 3);

        Edge.says("Promise 20", "NONE beyond YEAR 999,");
        Edge.due("shows(0) in YEAR 998", small(998, 0, 50, 9, 0, 0).shows(0), 2);
        for (int what = 0; what < 3; what++) {
            Edge.due("shows(" + what + ") in YEAR 999", small(999, 0, 50, 9, 0, 0).shows(what), -1);
        }

        Edge.says("Promise 20", "without a crown, or for others.");
        int[] others = {-1, 3, MAX, MIN};
        for (int what : others) {
            Edge.due("shows(" + what + ")", x.shows(what), -1);
        }
        for (int what = 0; what < 3; what++) {
            Edge.due("shows(" + what + ") without a crown", new EmptyHat().shows(what), -1);
        }
    }

    private static void promise21() {
        EmptyHat x = Check.crowned(FAIR);
        Edge.says("Promise 21", "To COUNT: the PROVINCE (what 0), how many SHOWS are left at the most (1).");
        Edge.due("where(0)", x.where(0), 0);
        Edge.due("where(1)", x.where(1), 2);
        Check.count(x, 0, 0, 5);
        Edge.due("where(0), west 5", x.where(0), 1);
        Edge.due("where(1), west 5", x.where(1), 1);
        Check.count(x, 0, 0, 5, 1, 0, 40);
        Edge.due("where(0), one SHOW left", x.where(0), 0);
        Edge.due("where(1), one SHOW left", x.where(1), 1);
        StringBuilder b = new StringBuilder("need 0 debt 0 rate 0;stores p 0 yields 0;");
        for (char c = 'a'; c < 'g'; c++) {
            b.append("trick ").append(c).append(" takes 1 from p look 0;");
        }
        Edge.due("where(0) of sixty-four alike", Check.crowned(b.toString()).where(0), 0);
        Edge.due("where(1) of sixty-four alike", Check.crowned(b.toString()).where(1), 64);

        Edge.says("Promise 21", "NONE without a SHOW,");
        Check.count(x, 0, 0, 6);
        Edge.due("where(0), west 6", x.where(0), -1);
        Edge.due("where(1), west 6", x.where(1), -1);

        Edge.says("Promise 21", "without PROVINCES,");
        Edge.due("where(0)", Check.crowned(NOTHING_TOLD).where(0), -1);
        Edge.due("where(1)", Check.crowned(NOTHING_TOLD).where(1), -1);
        Edge.due("where(0) without a crown", new EmptyHat().where(0), -1);
        Edge.due("where(1) without a crown", new EmptyHat().where(1), -1);

        Edge.says("Promise 21", "beyond YEAR 999,");
        Edge.due("where(1) in YEAR 998", small(998, 0, 50, 9, 0, 0).where(1), 1);
        Edge.due("where(0) in YEAR 999", small(999, 0, 50, 9, 0, 0).where(0), -1);
        Edge.due("where(1) in YEAR 999", small(999, 0, 50, 9, 0, 0).where(1), -1);

        Edge.says("Promise 21", "or for others.");
        x = Check.crowned(FAIR);
        int[] others = {-1, 2, MAX, MIN};
        for (int what : others) {
            Edge.due("where(" + what + ")", x.where(what), -1);
        }
    }

    private static void promise22() {
        EmptyHat x = Check.crowned(SMALL + "watch v seat 9 glass 0;sees seat*50;");
        Edge.says("Promise 22", "A WATCH by so much SIGHT (0 .. 99), as bits;");
        Edge.due("watch(0)", x.watch(0), 1);
        Edge.due("watch(99)", x.watch(99), 1);
        x.sit(0, 1);
        Edge.due("watch(50)", x.watch(50), 1);
        Edge.due("watch(51)", x.watch(51), 2);
        Edge.due("watch(99)", x.watch(99), 2);
        Edge.due("watch(0) without TRICKS", Check.crowned(NOTHING_TOLD).watch(0), 0);

        Edge.says("Promise 22", "NONE when none is,");
        x.sit(1, 0);
        Edge.due("watch(51)", x.watch(51), -1);
        Edge.due("watch(0) without WATCHERS", Check.crowned("need 0 debt 0 rate 0;stores p 0 yields 0;"
            + "trick t takes 1 from p look 0;").watch(0), -1);

        Edge.says("Promise 22", "it can't be,");
        int[] wrong = {-1, 100, MAX, MIN};
        for (int least : wrong) {
            Edge.due("watch(" + least + ")", x.watch(least), -1);
            Edge.due("watch(" + least + ") without TRICKS", Check.crowned(NOTHING_TOLD).watch(least), -1);
        }

        Edge.says("Promise 22", "or without a crown.");
        Edge.due("watch(0)", new EmptyHat().watch(0), -1);
        Edge.due("watch(99)", new EmptyHat().watch(99), -1);
    }

    private static void promise23() {
        EmptyHat x = Check.crowned(SMALL + "watch v seat 9 glass 5;sees 9-max(seat-glass,glass-seat);");
        Edge.says("Promise 23", "The SEAT for a WATCHER;");
        Edge.due("seat(0)", x.seat(0), 1);
        Edge.due("seat(1)", x.seat(1), 5);
        Edge.due("nothing has changed", x.watcher(1, 0), 9);
        Edge.says("Promise 23", "NONE when there is none such.");
        int[] wrong = {-1, 2, 5, MAX, MIN};
        for (int w : wrong) {
            Edge.due("seat(" + w + ")", x.seat(w), -1);
        }
        Edge.due("seat(0) without a crown", new EmptyHat().seat(0), -1);
        Edge.due("seat(0) without WATCHERS", Check.crowned(NOTHING_TOLD).seat(0), -1);
    }

    /** Refused: no answer but NONE, one more in status, and all stays. */
    private static void refusedShow(String when, EmptyHat x, int show) {
        int before = x.status(2);
        String all = Edge.all(x);
        Edge.due("show(" + show + ") " + when, x.show(show), -1);
        Edge.due("status(2) behind show(" + show + ") " + when, x.status(2), before + 1);
        Edge.same("all stays " + when, Edge.all(x), all);
    }

    private static void promise24() {
        EmptyHat x = Check.crowned(FAIR);
        Edge.says("Promise 24", "A YEAR with a SHOW: what APPEARS;");
        Edge.due("show(7)", x.show(7), 95);
        Edge.due("has(3)", x.has(3), 1);
        // 100 less 35 and 10 of a hundred more.
        Edge.due("has(4)", x.has(4), 71);
        Edge.due("has(7)", x.has(7), 15);
        Edge.due("show(0)", x.show(0), 0);
        Edge.due("show(0) in YEAR 998", small(998, 0, 50, 9, 0, 0).show(0), 0);
        Edge.due("status(2)", x.status(2), 0);

        Edge.says("Promise 24", "NONE, refused (2), when it can't be given,");
        int[] none = {8, 64, -1, MAX, MIN};
        for (int show : none) {
            refusedShow("of FAIR", Check.crowned(FAIR), show);
        }
        refusedShow("KNOWN by 100", small(0, 0, 50, 9, 0, 100), 1);
        refusedShow("with BELIEF 0", small(0, 0, 0, 9, 0, 0), 1);
        Edge.due("show(1), KNOWN by 99", small(0, 0, 50, 9, 0, 99).show(1), 5);
        Edge.due("show(1), BELIEF 1", small(0, 0, 1, 9, 0, 0).show(1), 5);

        Edge.says("Promise 24", "beyond YEAR 999,");
        refusedShow("in YEAR 999", small(999, 0, 50, 9, 0, 0), 0);
        refusedShow("in YEAR 999", small(999, 0, 50, 9, 0, 0), 1);

        Edge.says("Promise 24", "or without a crown.");
        refusedShow("without a crown", new EmptyHat(), 0);
        refusedShow("without a crown", new EmptyHat(), 1);
    }

    private static void refusedSeat(EmptyHat x, int watcher, int seat) {
        String call = "sit(" + watcher + ", " + seat + ")";
        int before = x.status(2);
        String all = Edge.all(x);
        Edge.due(call, x.sit(watcher, seat), false);
        Edge.due("status(2) behind " + call, x.status(2), before + 1);
        Edge.same("all stays behind " + call, Edge.all(x), all);
    }

    private static void promise25() {
        EmptyHat x = Check.crowned(FAIR);
        Edge.says("Promise 25", "A WATCHER takes a seat (0 .. 9): true;");
        Edge.due("sit(0, 0)", x.sit(0, 0), true);
        Edge.due("watcher(0, 0)", x.watcher(0, 0), 0);
        Edge.due("sit(1, 9)", x.sit(1, 9), true);
        Edge.due("watcher(1, 0)", x.watcher(1, 0), 9);
        Edge.due("sit(0, 9), as the other one", x.sit(0, 9), true);
        Edge.due("has(10)", x.has(10), 3);
        Edge.due("sit in YEAR 999", small(999, 0, 0, 9, 0, 0).sit(0, 4), true);
        Edge.due("status(2)", x.status(2), 0);

        Edge.says("Promise 25", "false, refused (2), when there are none such,");
        int[] seats = {-1, 10, MAX, MIN};
        int[] watchers = {-1, 2, MAX, MIN};
        for (int i = 0; i < 4; i++) {
            refusedSeat(Check.crowned(FAIR), 0, seats[i]);
            refusedSeat(Check.crowned(FAIR), watchers[i], 0);
        }
        refusedSeat(new EmptyHat(), 0, 0);

        Edge.says("Promise 25", "or it is his.");
        refusedSeat(Check.crowned(FAIR), 0, 2);
        refusedSeat(Check.crowned(FAIR), 1, 8);
        x = Check.crowned(FAIR);
        x.sit(0, 5);
        refusedSeat(x, 0, 5);
        Edge.due("sit(0, 2), his at first", x.sit(0, 2), true);
    }

    private static final String THREE = "need 1 debt 0 rate 0;stores a 100 yields 0;stores b 9950 yields 0;"
        + "stores c 0 yields 0;";

    private static void refusedMove(int from, int to, int coin) {
        EmptyHat x = Check.crowned(THREE);
        String call = "move(" + from + ", " + to + ", " + coin + ")";
        String all = Edge.all(x);
        Edge.due(call, x.move(from, to, coin), false);
        Edge.due("status(2) behind " + call, x.status(2), 1);
        Edge.same("all stays behind " + call, Edge.all(x), all);
    }

    private static void promise26() {
        EmptyHat x = Check.crowned(THREE);
        Edge.says("Promise 26", "Coin (1 .. 9999) is moved from a PROVINCE to another one: true;");
        Edge.due("move(0, 1, 1)", x.move(0, 1, 1), true);
        Edge.due("move(0, 1, 48)", x.move(0, 1, 48), true);
        Edge.due("move(1, 2, 9999)", x.move(1, 2, 9999), true);
        Edge.due("province(0, 0)", x.province(0, 0), 51);
        Edge.due("province(1, 0)", x.province(1, 0), 0);
        Edge.due("province(2, 0)", x.province(2, 0), 9999);
        Edge.due("has(10)", x.has(10), 3);
        refusedMove(0, 2, 0);
        refusedMove(0, 2, -1);
        refusedMove(0, 2, MIN);
        refusedMove(1, 2, 10000);
        refusedMove(1, 2, MAX);

        Edge.says("Promise 26", "false, refused (2), when there is not so much,");
        refusedMove(0, 2, 101);
        refusedMove(2, 0, 1);
        x = Check.crowned(THREE);
        Edge.due("move(0, 2, 100), all of it", x.move(0, 2, 100), true);
        Edge.due("province(0, 0)", x.province(0, 0), 0);

        Edge.says("Promise 26", "it would be too much there,");
        refusedMove(0, 1, 50);
        refusedMove(0, 1, 100);
        x = Check.crowned(THREE);
        Edge.due("move(0, 1, 49)", x.move(0, 1, 49), true);
        Edge.due("province(1, 0)", x.province(1, 0), 9999);

        Edge.says("Promise 26", "there are none such,");
        int[] wrong = {-1, 3, 6, MAX, MIN};
        for (int p : wrong) {
            refusedMove(p, 0, 1);
            refusedMove(0, p, 1);
        }
        Edge.due("without a crown", new EmptyHat().move(0, 1, 1), false);

        Edge.says("Promise 26", "or they are one.");
        refusedMove(0, 0, 1);
        refusedMove(1, 1, 1);
    }

    private static void promise27() {
        Edge.says("Promise 27", "n YEARS (1 .. 100): how many SHOWS were ENOUGH;");
        EmptyHat x = Check.crowned("need 5 debt 0 rate 0;stores p 12 yields 0;trick t takes 5 from p look 0;");
        Edge.due("years(1)", x.years(1), 1);
        Edge.due("years(100)", x.years(100), 1);
        Edge.due("has(3)", x.has(3), 101);
        Edge.due("has(10)", x.has(10), 2);
        Edge.due("years(100) without need", Check.crowned(NOTHING_TOLD).years(100), 100);
        Edge.due("status(3)", x.status(3), 0);

        Edge.says("Promise 27", "NONE, refused (3), when it can't be,");
        int[] wrong = {0, -1, 101, MAX, MIN};
        for (int i = 0; i < wrong.length; i++) {
            Edge.due("years(" + wrong[i] + ")", x.years(wrong[i]), -1);
            Edge.due("status(3)", x.status(3), i + 1);
        }
        Edge.due("has(3)", x.has(3), 101);
        Edge.due("has(10)", x.has(10), 2);
        x = small(900, 0, 50, 9, 0, 0);
        String all = Edge.all(x);
        Edge.due("years(100) in YEAR 900", x.years(100), -1);
        Edge.same("all stays", Edge.all(x), all);
        Edge.due("years(99) in YEAR 900", x.years(99) >= 0, true);
        Edge.due("has(3)", x.has(3), 999);
        Edge.due("years(1) in YEAR 999", x.years(1), -1);
        Edge.due("status(3)", x.status(3), 2);

        Edge.says("Promise 27", "or without a crown.");
        x = new EmptyHat();
        Edge.due("years(1)", x.years(1), -1);
        Edge.due("status(3)", x.status(3), 1);
    }

    private static void promise28() {
        Edge.says("Promise 28", "n YEARS by the seed (1 .. 100),");
        EmptyHat x = Check.crowned(SMALL + "boys 100;");
        Edge.due("chance(1)", x.chance(1), 1);
        Edge.due("has(3)", x.has(3), 1);
        Edge.due("chance(100)", x.chance(100), 100);
        Edge.due("has(3)", x.has(3), 101);
        Edge.due("status(3)", x.status(3), 0);

        Edge.says("Promise 28", "one ACT: how many boys;");
        Edge.due("has(10)", x.has(10), 2);
        x.undo();
        Edge.due("has(3)", x.has(3), 1);
        // By the seed 1: 18 of 100, the TRICK, 26, 80, 16 of 100, the TRICK, 68.
        x = Check.crowned(SMALL + "boys 19;");
        Edge.due("chance(5)", x.chance(5), 2);
        Edge.due("chance(4) without boys", Check.crowned(SMALL).chance(4), 0);
        Edge.due("chance(4) without TRICKS", Check.crowned(NOTHING_TOLD + "boys 100;").chance(4), 0);

        Edge.says("Promise 28", "NONE, refused (3), when it can't be,");
        x = Check.crowned(SMALL + "boys 19;");
        int[] wrong = {0, -1, 101, MAX, MIN};
        for (int i = 0; i < wrong.length; i++) {
            Edge.due("chance(" + wrong[i] + ")", x.chance(wrong[i]), -1);
            Edge.due("status(3)", x.status(3), i + 1);
        }
        Edge.due("has(3)", x.has(3), 0);
        Edge.due("has(10)", x.has(10), 0);
        Edge.due("chance(1): nothing was drawn", x.chance(1), 1);
        put(x, 998, 0, 50, 9, 0, 0);
        Edge.due("chance(2) in YEAR 998", x.chance(2), -1);
        Edge.due("chance(1) in YEAR 998: 26 is not below 19", x.chance(1), 0);
        Edge.due("chance(1) in YEAR 999", x.chance(1), -1);
        Edge.due("status(3)", x.status(3), 7);

        Edge.says("Promise 28", "or without a crown.");
        x = new EmptyHat();
        Edge.due("chance(1)", x.chance(1), -1);
        Edge.due("status(3)", x.status(3), 1);
        Check.crown(x, SMALL + "boys 19;");
        Edge.due("chance(1): nothing was drawn", x.chance(1), 1);
    }

    private static void promise29() {
        Edge.says("Promise 29", "The latest ACT is undone");
        EmptyHat x = Check.crowned(FAIR);
        String[] before = new String[6];
        before[0] = Edge.all(x);
        x.show(7);
        before[1] = Edge.all(x);
        x.sit(1, 3);
        before[2] = Edge.all(x);
        x.move(1, 0, 10);
        before[3] = Edge.all(x);
        EmptyHat y = Check.crowned(FAIR);
        before[4] = Edge.all(y);
        y.years(7);
        before[5] = Edge.all(y);
        y.chance(9);
        for (int i = 3; i > 0; i--) {
            Edge.due("undo()", x.undo(), true);
            Edge.same("all as it was", Edge.all(x), before[i - 1]);
        }
        for (int i = 5; i > 3; i--) {
            Edge.due("undo()", y.undo(), true);
            Edge.same("all as it was", Edge.all(y), before[i]);
        }

        Edge.says("Promise 29", "(the seed stays): true;");
        x = Check.crowned(SMALL + "boys 19;");
        Edge.due("chance(1): 18", x.chance(1), 1);
        Edge.due("undo()", x.undo(), true);
        Edge.due("chance(1): 26", x.chance(1), 0);
        x.seed(0);
        Edge.due("undo()", x.undo(), true);
        // By the seed 0: 92, 21, 71, 20 of 100.
        Edge.due("chance(4)", x.chance(4), 0);
        x.undo();
        x.seed(1);
        Edge.due("chance(1): 18", x.chance(1), 1);

        Edge.says("Promise 29", "false, refused (4), when none can be.");
        x = Check.crowned(FAIR);
        Edge.due("undo()", x.undo(), false);
        Edge.due("status(4)", x.status(4), 1);
        x.sit(0, 5);
        Edge.due("undo()", x.undo(), true);
        String all = Edge.all(x);
        Edge.due("undo()", x.undo(), false);
        Edge.due("status(4)", x.status(4), 2);
        Edge.same("all stays", Edge.all(x), all);
        Edge.due("without a crown", new EmptyHat().undo(), false);
    }

    private static void promise30() {
        EmptyHat x = Check.crowned(SMALL + "boys 93;");
        Edge.says("Promise 30", "The seed: true;");
        Edge.due("seed(0)", x.seed(0), true);
        Edge.due("chance(1): 92", x.chance(1), 1);
        Edge.due("seed(MAX)", x.seed(MAX), true);
        Edge.due("chance(1): 99", x.chance(1), 0);
        Edge.due("status(5)", x.status(5), 0);
        Edge.due("has(10): no act", x.has(10), 2);
        Edge.due("without a crown", new EmptyHat().seed(5), true);

        Edge.says("Promise 30", "false, refused (5), when it is below 0.");
        x.seed(MAX);
        Edge.due("seed(-1)", x.seed(-1), false);
        Edge.due("seed(MIN)", x.seed(MIN), false);
        Edge.due("status(5)", x.status(5), 2);
        Edge.due("chance(1): 99, the seed stays", x.chance(1), 0);

        Edge.says("Promise 30", "(It is 1 at first.)");
        Edge.due("chance(1): 18", Check.crowned(SMALL + "boys 18;").chance(1), 0);
        Edge.due("chance(1): 18", Check.crowned(SMALL + "boys 19;").chance(1), 1);
    }

    private static void promise31() {
        EmptyHat x = Check.crowned(FAIR);
        Edge.says("Promise 31", "The tape (it goes) is a QUESTION: its answer;");
        Edge.asks(x, "total takes", 95);
        Edge.due("the tape is gone", x.end(1), false);
        Edge.asks(x, "least 0-1", -1);
        Edge.asks(x, "first all", 0);
        String all = Edge.all(x);
        Edge.asks(x, "often all", 3);
        Edge.same("all stays", Edge.all(x), all);

        x = Check.crowned(FAIR);
        Edge.says("Promise 31", "NONE of first, last, when its TEST holds for none;");
        Edge.asks(x, "first not all", -1);
        Edge.asks(x, "last not all", -1);
        Edge.asks(x, "often not all", 0);
        Edge.asks(Check.crowned(NOTHING_TOLD), "first all", -1);
        Edge.asks(Check.crowned(NOTHING_TOLD), "last all", -1);

        Edge.says("Promise 31", "NOTHING with a FAULT,");
        Edge.askFault(x, 1, "^");
        Edge.askFault(x, 1, "first all ^1");
        Edge.askFault(x, 4, "total ((((((^(1");
        Edge.due("the tape is gone", x.end(1), false);
        all = Edge.all(x);
        Edge.askFault(x, 1, "total 5^x");
        Edge.same("all stays", Edge.all(x), all);
        Edge.due("nothing is refused but end()", x.status(1) + x.status(2) + x.status(3) + x.status(5), 0);
        Edge.askFault(Check.crowned(NOTHING_TOLD), 1, "least ^");

        Edge.says("Promise 31", "or, doing nothing else, without a crown.");
        x = new EmptyHat();
        Edge.due("ask()", Check.ask(x, "often all"), EmptyHat.NOTHING);
        Edge.due("the tape is gone", x.end(1), false);
        Edge.due("fault(0)", x.fault(0), 0);
        Edge.due("ask() of no QUESTION", Check.ask(x, "x"), EmptyHat.NOTHING);
        Edge.due("fault(0)", x.fault(0), 0);
        Check.crown(x, "need 1 debt 1 rate 100;");
        Edge.due("ask()", Check.ask(x, "often all"), EmptyHat.NOTHING);
        Edge.due("fault(0) of crown()", x.fault(0), 2);
        Edge.due("fault(1) of crown()", x.fault(1), 19);
    }

    private static void promises32And33() {
        Edge.says("Promise 32", "AN IMAGE is written: how many bytes.");
        Edge.due("image() without a crown", new EmptyHat().image(), 7);
        Edge.due("image() of nothing", Check.crowned(NOTHING_TOLD).image(), 7);
        Edge.due("image() of one each", Check.crowned(SMALL).image(), 14);
        StringBuilder b = new StringBuilder(NOTHING_TOLD);
        for (char c = 'a'; c < 'g'; c++) {
            b.append("stores p").append(c).append(" 9999 yields 9;trick t").append(c).append(" takes 9 from p")
                .append(c).append(" look 1;").append(c < 'f' ? "watch w" + c + " seat 9 glass 9;" : "");
        }
        EmptyHat x = Check.crowned(b.toString());
        Edge.due("image() of all that can be", x.image(), 48);
        Edge.due("octet(46)", x.octet(46), 9);

        Edge.says("Promise 33", "Byte k of the latest image();");
        x = Check.crowned(SMALL);
        x.image();
        Edge.due("octet(0)", x.octet(0), 0);
        Edge.due("octet(5)", x.octet(5), 50);
        Edge.due("octet(12)", x.octet(12), 3);
        Edge.due("octet(13)", x.octet(13), Check.imageOf(0, 0, 0, 0, 0, 50, 0, 9, 0, 0, 0, 0, 3)[13]);
        x.sit(0, 7);
        Edge.due("octet(12) as it was", x.octet(12), 3);
        Check.crown(x, NOTHING_TOLD);
        Edge.due("octet(12) behind a crown", x.octet(12), 3);
        x.image();
        Edge.due("octet(6) of the latest", x.octet(6) >= 0, true);

        Edge.says("Promise 33", "NONE when there is none such.");
        Edge.due("octet(7) of the latest", x.octet(7), -1);
        Edge.due("octet(12) of the latest", x.octet(12), -1);
        Edge.due("octet(-1)", x.octet(-1), -1);
        Edge.due("octet(MAX)", x.octet(MAX), -1);
        Edge.due("octet(MIN)", x.octet(MIN), -1);
        Edge.due("octet(0) ahead of any", Check.crowned(SMALL).octet(0), -1);
    }

    private static void promise34() {
        EmptyHat x = Check.crowned(SMALL);
        int[] good = Check.imageOf(1, 2, 0, 1, 4, 33, 5, 6, 7, 8, 2, 9, 4);
        Edge.says("Promise 34", "The tape (it goes) is AN IMAGE of this CROWN: true, all is as it tells,");
        Edge.due("on()", Check.on(x, good), true);
        Edge.due("the tape is gone", x.end(1), false);
        int[] has = {1, 1, 1, 258, 260, 33, 1, 1286};
        for (int what = 0; what < has.length; what++) {
            Edge.due("has(" + what + ")", x.has(what), has[what]);
        }
        Edge.due("trick(0, 3)", x.trick(0, 3), 1800);
        Edge.due("trick(0, 4)", x.trick(0, 4), 521);
        Edge.due("watcher(0, 0)", x.watcher(0, 0), 4);
        Edge.due("on() of the least", Check.on(x, Check.imageOf(new int[13])), true);
        Edge.due("has(5)", x.has(5), 0);
        Edge.due("on() of a crown of nothing",
            Check.on(Check.crowned(NOTHING_TOLD), Check.imageOf(0, 5, 0, 0, 0, 50)), true);

        Edge.says("Promise 34", "nothing is KEPT or can be undone;");
        x = Check.crowned(SMALL + "sees 99;");
        x.show(1);
        x.show(1);
        Check.count(x, 0, 0, 5);
        Edge.due("KEPT, COUNTED, ACTS", x.has(8) * 100 + x.has(9) * 10 + x.has(10), 112);
        Edge.due("on()", Check.on(x, good), true);
        Edge.due("KEPT, COUNTED, ACTS", x.has(8) * 100 + x.has(9) * 10 + x.has(10), 10);
        Edge.due("undo()", x.undo(), false);
        Edge.due("kept(0, 0)", x.kept(0, 0), -1);
        images(good);
    }

    private static void images(int[] good) {
        Edge.says("Promise 34", "false, refused (5), when it is none");
        EmptyHat x = Check.crowned(SMALL);
        x.sit(0, 8);
        String all = Edge.all(x);
        int[] wrong = good.clone();
        wrong[13] ^= 1;
        Edge.due("on() with another last byte", Check.on(x, wrong), false);
        wrong = good.clone();
        wrong[5]++;
        Edge.due("on() with another byte", Check.on(x, wrong), false);
        Edge.due("on() of a byte less", Check.on(x, Check.imageOf(1, 2, 0, 1, 4, 33, 5, 6, 7, 8, 2, 9)), false);
        Edge.due("on() of a byte more", Check.on(x, Check.imageOf(1, 2, 0, 1, 4, 33, 5, 6, 7, 8, 2, 9, 4, 0)), false);
        Edge.due("on() of nothing", Check.on(x), false);
        Edge.due("status(5)", x.status(5), 5);
        Edge.due("the tape is gone", x.end(1), false);
        // c is 0 to 250: a last byte of 251 or more is none.
        int[] zero = lastByteBelowFive();
        Edge.due("on() with a last byte below 5", Check.on(Check.crowned(SMALL), zero), true);
        zero[13] += 251;
        Edge.due("on() with 251 more", Check.on(x, zero), false);

        Edge.says("Promise 34", "(YEAR 999, debt 99999, BELIEF 100, stores 9999, SHOWN 9999, KNOWN 999, seats 9 at most),");
        int[] most = {3, 231, 1, 0x86, 0x9f, 100, 0x27, 0x0f, 0x27, 0x0f, 3, 231, 9};
        Edge.due("on() of the most", Check.on(Check.crowned(SMALL), Check.imageOf(most)), true);
        int[] last = {1, 4, 5, 7, 9, 11, 12};
        for (int at : last) {
            int[] more = most.clone();
            more[at]++;
            Edge.due("on() of one more at " + at, Check.on(x, Check.imageOf(more)), false);
        }
        int[] first = {0, 2, 5, 6, 8, 10, 12};
        for (int at : first) {
            int[] more = new int[13];
            more[at] = 255;
            Edge.due("on() of 255 at " + at, Check.on(x, Check.imageOf(more)), false);
        }
        Edge.due("status(5)", x.status(5), 20);

        Edge.says("Promise 34", "or without a crown,");
        EmptyHat none = new EmptyHat();
        Edge.due("on()", Check.on(none, Check.imageOf(0, 0, 0, 0, 0, 0)), false);
        Edge.due("status(5)", none.status(5), 1);
        Edge.due("the tape is gone", none.end(1), false);

        Edge.says("Promise 34", "all staying.");
        Edge.same("all", Edge.all(x), all);
        Edge.due("undo()", x.undo(), true);
    }

    /** An image of SMALL whose last byte could be told in two ways, if it were told mod 256. */
    private static int[] lastByteBelowFive() {
        for (int debt = 0; debt < 256; debt++) {
            int[] bytes = Check.imageOf(0, 0, 0, 0, debt, 50, 0, 9, 0, 0, 0, 0, 3);
            if (bytes[13] < 5) {
                return bytes;
            }
        }
        throw new IllegalStateException("no such image");
    }

    private static void promise35() {
        Edge.says("Promise 35", "How many were refused: 0 feed(), end(); 1 crown(), count(); 2 show(), sit(), move(); 3"
            + " years(), chance(); 4 undo(); 5 seed(), on().");
        EmptyHat x = Check.crowned(FAIR);
        status(x, 0, 0, 0, 0, 0, 0);
        x.end(-1);
        status(x, 1, 0, 0, 0, 0, 0);
        x.crown();
        status(x, 1, 1, 0, 0, 0, 0);
        x.count();
        status(x, 1, 2, 0, 0, 0, 0);
        x.show(8);
        status(x, 1, 2, 1, 0, 0, 0);
        x.sit(0, 10);
        x.move(0, 0, 1);
        status(x, 1, 2, 3, 0, 0, 0);
        x.years(0);
        x.chance(0);
        status(x, 1, 2, 3, 2, 0, 0);
        x.undo();
        status(x, 1, 2, 3, 2, 1, 0);
        x.seed(-1);
        x.on();
        status(x, 1, 2, 3, 2, 1, 2);
        for (int i = 0; i < 81; i++) {
            x.feed(0, 0, 0, 0, 0);
        }
        status(x, 2, 2, 3, 2, 1, 2);
        x.ask();
        x.best(9);
        x.appears(9);
        x.later(61, 0);
        x.both(9);
        x.drop(61);
        x.shows(9);
        x.where(9);
        x.watch(100);
        x.seat(9);
        x.octet(9);
        x.fault(9);
        x.has(99);
        x.kept(9, 9);
        x.letter(9, 9, 9);
        status(x, 2, 2, 3, 2, 1, 2);
        Check.crown(x, FAIR);
        status(x, 2, 2, 3, 2, 1, 2);

        Edge.says("Promise 35", "NONE for others.");
        int[] others = {-1, 6, MAX, MIN};
        for (int what : others) {
            Edge.due("status(" + what + ")", x.status(what), -1);
        }
    }

    private static void status(EmptyHat x, int... due) {
        for (int what = 0; what < due.length; what++) {
            Edge.due("status(" + what + ")", x.status(what), due[what]);
        }
    }
}
