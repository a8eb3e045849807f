/** Term II, sentence by sentence: sights, shows, years and acts. */
final class EdgesOfYears {
    private static final String II = "Term II";

    private EdgesOfYears() { }

    static void run() {
        atFirst();
        sights();
        seenThrough();
        curtain();
        shows();
        enough();
        bestShow();
        yields();
        shown();
        losses();
        debts();
        lastYear();
        acts();
        boys();
        undone();
        kept();
        draws();
    }

    /** A TRICK that takes 1 of plenty, seen by two WATCHERS; what is told behind it. */
    private static EmptyHat watched(String sees) {
        return Check.crowned("need 0 debt 0 rate 0;stores p 9 yields 9;trick t takes 1 from p look 0;"
            + "watch v seat 1 glass 2;watch w seat 3 glass 8;" + sees);
    }

    /** The state of a CROWN of one PROVINCE, one TRICK, no WATCHERS is put by an image. */
    private static void put(EmptyHat x, int year, int debt, int belief, int store, int shown, int known) {
        boolean on = Check.on(x, Check.imageOf(year >> 8, year & 255, debt >> 16, debt >> 8 & 255, debt & 255, belief,
            store >> 8, store & 255, shown >> 8, shown & 255, known >> 8, known & 255));
        Edge.due("on()", on, true);
    }

    private static void atFirst() {
        EmptyHat x = watched("sees 9;");
        Edge.says(II, "It is YEAR 0 at first;");
        Edge.due("has(3)", x.has(3), 0);
        x.years(2);
        Edge.due("has(3) behind two", x.has(3), 2);

        Edge.says(II, "no TRICK is KNOWN.");
        Edge.due("trick(0, 4)", watched("sees 9;").trick(0, 4), 0);
        Edge.due("has(6)", watched("sees 99;").has(6), 0);
    }

    private static void sights() {
        Edge.says(II, "The SIGHT of a TRICK by a WATCHER is the SUM of sees, 0 .. 99 (below is 0, above 99);");
        String[] sums = {"0-9999*9999", "0-1", "0", "1", "98", "99", "100", "9999*9999"};
        int[] due = {0, 0, 0, 1, 98, 99, 99, 99};
        for (int i = 0; i < sums.length; i++) {
            Edge.due("sight(0, 0) by " + sums[i], watched("sees " + sums[i] + ";").sight(0, 0), due[i]);
        }

        Edge.says(II, "its SIGHT is that of all WATCHERS together.");
        Edge.due("glass 2 and 8", watched("").trick(0, 5), 10);
        Edge.due("none by one, 3 by the other", watched("sees glass-5;").trick(0, 5), 3);
        Edge.due("99 each", watched("sees 999;").trick(0, 5), 198);
        EmptyHat x = Check.crowned("need 0 debt 0 rate 0;stores p 9 yields 9;trick t takes 1 from p look 0;sees 9;");
        Edge.due("without WATCHERS", x.trick(0, 5), 0);
    }

    private static void seenThrough() {
        EmptyHat x = Check.crowned("need 1 debt 0 rate 0;stores p 9 yields 9;trick t takes 1 from p look 0;");
        Edge.says(II, "A TRICK KNOWN by 100 or more is SEEN THROUGH:");
        int[] known = {0, 99, 100, 101, 999};
        for (int k : known) {
            put(x, 0, 0, 50, 9, 0, k);
            Edge.due("has(6), KNOWN by " + k, x.has(6), k < 100 ? 0 : 1);
        }
        x = watched("sees glass*10-1;");
        // 19 and 79 a show.
        x.show(1);
        Edge.due("has(6), KNOWN by 98", x.has(6), 0);
        x = watched("sees glass*10;");
        x.show(1);
        Edge.due("has(6), KNOWN by 100", x.has(6), 1);

        Edge.says(II, "it is not SHOWN any more.");
        Edge.due("show(1)", x.show(1), -1);
        x = Check.crowned("need 1 debt 0 rate 0;stores p 9 yields 9;trick t takes 1 from p look 0;");
        put(x, 0, 0, 50, 9, 7, 99);
        Edge.due("best(0), KNOWN by 99", x.best(0), 1);
        Edge.due("years(1)", x.years(1), 1);
        put(x, 0, 0, 50, 9, 7, 100);
        Edge.due("best(0), KNOWN by 100", x.best(0), 0);
        Edge.due("years(1)", x.years(1), 0);
        Edge.due("trick(0, 3)", x.trick(0, 3), 7);
    }

    private static void curtain() {
        EmptyHat x = Check.crowned("need 1 debt 0 rate 0;stores p 9 yields 9;trick t takes 1 from p look 0;");
        Edge.says(II, "While BELIEF is 0, the CURTAIN is down:");
        put(x, 0, 0, 1, 9, 0, 0);
        Edge.due("curtain(), BELIEF 1", x.curtain(), -1);
        Edge.due("show(1), BELIEF 1", x.show(1), 1);
        put(x, 0, 0, 0, 9, 0, 0);
        Edge.due("curtain(), BELIEF 0", x.curtain(), 0);
        Edge.due("show(1), BELIEF 0", x.show(1), -1);

        Edge.says(II, "no SHOW can be given but the empty one.");
        Edge.due("appears(1)", x.appears(1), -1);
        Edge.due("appears(0)", x.appears(0), 0);
        Edge.due("best(0)", x.best(0), 0);
        Edge.due("shows(0)", x.shows(0), 1);
        Edge.due("both(0)", x.both(0), 0);
        Edge.due("both(1)", x.both(1), 0);
        Edge.due("show(0)", x.show(0), 0);
        Edge.due("years(1)", x.years(1), 0);
        Edge.due("trick(0, 3)", x.trick(0, 3), 0);
        Edge.due("has(4)", x.has(4), 2);
        Edge.due("has(7): 9 came twice", x.has(7), 27);
    }

    private static void shows() {
        EmptyHat x = Check.crowned("need 1 debt 0 rate 0;stores p 10 yields 0;stores q 4 yields 0;"
            + "trick a takes 7 from p look 0;trick b takes 7 from p look 9;trick c takes 4 from q look 0;"
            + "watch v seat 0 glass 0;watch w seat 0 glass 0;sees look*9;");
        Edge.says(II, "Each of them, by numbers, takes as much as it takes from its PROVINCE, as far as there is;");
        Edge.due("appears(1): 7 of 10", x.appears(1), 7);
        Edge.due("appears(3): 7, then 3 of 7", x.appears(3), 10);
        Edge.due("appears(4): all of 4", x.appears(4), 4);
        Edge.due("show(3)", x.show(3), 10);
        Edge.due("province(0, 0)", x.province(0, 0), 0);
        Edge.due("appears(1) of nothing", x.appears(1), 0);
        x.undo();

        Edge.says(II, "what all take APPEARS.");
        Edge.due("appears(0)", x.appears(0), 0);
        Edge.due("appears(7)", x.appears(7), 14);
        Edge.due("appears(5)", x.appears(5), 11);

        Edge.says(II, "A SHOW is a set of TRICKS not SEEN THROUGH.");
        Edge.due("shows(0)", x.shows(0), 8);
        Edge.due("show(2)", x.show(2), 7);
        Edge.due("has(6)", x.has(6), 1);
        for (int show = 0; show < 8; show++) {
            Edge.due("appears(" + show + ") is one", x.appears(show) >= 0, (show & 2) == 0);
        }
        Edge.due("shows(0)", x.shows(0), 4);
        Edge.due("shows(2)", x.shows(2), 5);
    }

    private static void enough() {
        Edge.says(II, "A SHOW is ENOUGH, if as much APPEARS as is needed, at least.");
        int[] takes = {9, 10, 11};
        for (int t : takes) {
            EmptyHat x = Check.crowned("need 10 debt 0 rate 0;stores p 99 yields 0;trick t takes " + t
                + " from p look 0;");
            Edge.due("years(1) by " + t + " of 10", x.years(1), t < 10 ? 0 : 1);
        }
        Edge.due("nothing of 0", Check.crowned("need 0 debt 0 rate 0;").years(1), 1);
        Edge.due("nothing of 1", Check.crowned("need 1 debt 0 rate 0;").years(1), 0);
    }

    /** Of a store of 100; looks are sights. */
    private static void best(int need, int show, int appears, int sight, int... takesAndLooks) {
        StringBuilder b = new StringBuilder("need " + need + " debt 0 rate 0;stores p 100 yields 0;sees look;"
            + "watch w seat 0 glass 0;");
        for (int i = 0; i < takesAndLooks.length; i += 2) {
            b.append("trick t").append((char) ('a' + i)).append(" takes ").append(takesAndLooks[i])
                .append(" from p look ").append(takesAndLooks[i + 1]).append(";");
        }
        EmptyHat x = Check.crowned(b.toString());
        Edge.due("best(0) of " + b, x.best(0), show);
        Edge.due("best(1) of " + b, x.best(1), appears);
        Edge.due("best(2) of " + b, x.best(2), sight);
    }

    private static void bestShow() {
        Edge.says(II, "The BEST SHOW now is ENOUGH, of the least SIGHT together;");
        best(20, 2, 20, 4, 50, 5, 20, 4, 19, 0);
        best(20, 6, 20, 4, 20, 5, 10, 2, 10, 2);
        best(0, 0, 0, 0, 50, 0);
        best(20, 1, 20, 9, 20, 9, 19, 0);
        Edge.says(II, "if none is, it is one by which most APPEARS,");
        best(101, 3, 100, 17, 60, 9, 40, 8);
        best(200, 3, 30, 17, 10, 8, 20, 9);
        best(1, 0, 0, 0);
        EmptyHat x = Check.crowned("need 5 debt 0 rate 0;stores p 5 yields 0;stores q 0 yields 0;sees look;"
            + "trick a takes 5 from p look 9;trick b takes 5 from q look 5;watch w seat 0 glass 0;");
        Edge.due("best(2)", x.best(2), 9);
        x.show(1);
        Edge.due("best(0) when all is gone", x.best(0), 0);
        Edge.due("best(2) when all is gone", x.best(2), 0);
        Edge.says(II, "of like ones of the least SIGHT;");
        best(200, 6, 100, 7, 60, 5, 40, 4, 60, 3);
        best(200, 2, 100, 4, 100, 5, 100, 4);
        Edge.says(II, "of like ones of the fewest TRICKS,");
        best(20, 4, 20, 4, 10, 2, 10, 2, 20, 4);
        best(200, 4, 100, 0, 50, 0, 50, 0, 100, 0);
        best(10, 1, 10, 0, 10, 0, 5, 0);
        Edge.says(II, "then the least bits.");
        best(20, 1, 30, 4, 30, 4, 20, 4, 25, 4);
        best(20, 3, 20, 4, 10, 2, 10, 2, 10, 2);
        best(200, 3, 100, 0, 50, 0, 50, 0, 50, 0);
    }

    private static void yields() {
        Edge.says(II, "A YEAR: FIRST each PROVINCE's yields come to its store (9999 at most).");
        EmptyHat x = Check.crowned("need 0 debt 0 rate 0;stores a 8999 yields 999;stores b 9000 yields 999;"
            + "stores c 9001 yields 999;stores d 9999 yields 0;stores e 9999 yields 999;stores f 0 yields 5;");
        x.years(1);
        int[] due = {9998, 9999, 9999, 9999, 9999, 5};
        for (int p = 0; p < due.length; p++) {
            Edge.due("province(" + p + ", 0)", x.province(p, 0), due[p]);
        }
        // What comes beyond 9999 is gone ahead of the show.
        x = Check.crowned("need 5 debt 0 rate 0;stores p 9999 yields 9;trick t takes 5 from p look 0;");
        x.years(1);
        Edge.due("9999, less 5", x.province(0, 0), 9994);

        Edge.says(II, "THEN the SHOW is given (the BEST one of that time):");
        x = Check.crowned("need 7 debt 0 rate 0;stores p 0 yields 7;stores q 6 yields 0;"
            + "trick a takes 9 from q look 0;trick b takes 7 from p look 9;watch w seat 0 glass 0;sees look;");
        Edge.due("years(1)", x.years(1), 1);
        Edge.due("trick(0, 3)", x.trick(0, 3), 0);
        Edge.due("trick(1, 3)", x.trick(1, 3), 1);
        Edge.due("province(0, 0)", x.province(0, 0), 0);
        Edge.due("province(1, 0)", x.province(1, 0), 6);
    }

    private static void shown() {
        // Five of 99 see 495; a trick that is KNOWN by 99 at most is KNOWN by 594 at most then.
        EmptyHat x = Check.crowned("need 1 debt 0 rate 0;stores p 9 yields 9;trick t takes 1 from p look 0;"
            + "trick u takes 1 from p look 0;sees 99;watch a seat 0 glass 0;watch b seat 0 glass 0;"
            + "watch c seat 0 glass 0;watch d seat 0 glass 0;watch e seat 0 glass 0;");
        Check.on(x, Check.imageOf(0, 0, 0, 0, 0, 50, 0, 9, 0, 0, 0, 99, 0, 0, 0, 0, 0, 0, 0, 0, 0));
        Edge.says(II, "each of its TRICKS becomes KNOWN by its SIGHT more (999 at most),");
        Edge.due("trick(0, 5)", x.trick(0, 5), 495);
        Edge.due("show(1)", x.show(1), 1);
        Edge.due("trick(0, 4)", x.trick(0, 4), 594);
        Edge.due("trick(1, 4)", x.trick(1, 4), 0);
        x = watched("sees times*10+1;");
        x.show(1);
        Edge.due("by the SIGHT ahead of the SHOW", x.trick(0, 4), 2);

        Edge.says(II, "SHOWN once more;");
        Edge.due("trick(0, 3)", x.trick(0, 3), 1);
        x.show(0);
        Edge.due("trick(0, 3) behind the empty one", x.trick(0, 3), 1);
        x.show(1);
        Edge.due("trick(0, 3)", x.trick(0, 3), 2);
        Edge.due("KNOWN by 22 more", x.trick(0, 4), 24);
    }

    /** A TRICK that is seen through by its first show; BELIEF is 20. */
    private static void lost(String loses, int belief) {
        EmptyHat x = watched("sees 50;belief 20;" + loses);
        x.show(1);
        Edge.due("has(5) by " + loses, x.has(5), belief);
    }

    private static void losses() {
        Edge.says(II, "for each of them that is SEEN THROUGH by it BELIEF becomes less by the SUM of loses");
        lost("loses 3;", 17);
        EmptyHat x = watched("sees glass;belief 20;loses 3;");
        x.show(1);
        Edge.due("KNOWN by 10: BELIEF stays", x.has(5), 20);
        x = watched("sees 50;belief 20;loses 3;");
        x.show(0);
        Edge.due("not in the SHOW: BELIEF stays", x.has(5), 20);
        x.show(1);
        x.show(0);
        Edge.due("once alone", x.has(5), 17);

        Edge.says(II, "(at least by nothing;");
        lost("loses 0;", 20);
        lost("loses 0-1;", 20);
        lost("loses 0-9999*9999;", 20);

        Edge.says(II, "times behind the SHOW;");
        lost("loses times*7;", 13);
        x = watched("sees year*50;belief 20;loses times*3;");
        x.show(1);
        x.show(1);
        Edge.due("SHOWN twice", x.has(5), 14);

        Edge.says(II, "one after the other, by numbers),");
        x = Check.crowned("need 0 debt 0 rate 0;stores p 9 yields 9;trick a takes 1 from p look 0;"
            + "trick b takes 2 from p look 0;watch v seat 1 glass 2;watch w seat 3 glass 8;sees 50;belief 41;"
            + "loses belief/(takes+1);");
        x.show(3);
        // 41 less 20 is 21, less 7 is 14; the other way about 41 less 13 is 28, less 14 is 14.
        Edge.due("kept(0, 2)", x.kept(0, 2), 21);
        Edge.due("kept(1, 2)", x.kept(1, 2), 14);
        Edge.due("has(5)", x.has(5), 14);

        Edge.says(II, "0 at least.");
        lost("loses 19;", 1);
        lost("loses 20;", 0);
        lost("loses 21;", 0);
        lost("loses 9999*9999;", 0);
    }

    private static int debtBy(int need, int debt, int rate, int takes) {
        EmptyHat x = Check.crowned("need " + need + " debt " + debt + " rate " + rate
            + ";stores p 999 yields 0;trick t takes " + takes + " from p look 0;");
        x.show(1);
        return x.has(4);
    }

    private static void debts() {
        Edge.says(II, "THEN what APPEARS beyond the need pays debt (what is more than that is lost),");
        Edge.due("10 of 10, debt 5", debtBy(10, 5, 0, 10), 5);
        Edge.due("14 of 10, debt 5", debtBy(10, 5, 0, 14), 1);
        Edge.due("15 of 10, debt 5", debtBy(10, 5, 0, 15), 0);
        Edge.due("16 of 10, debt 5", debtBy(10, 5, 0, 16), 0);
        Edge.due("999 of 0, debt 0", debtBy(0, 0, 0, 999), 0);

        Edge.says(II, "what lacks becomes debt;");
        Edge.due("9 of 10", debtBy(10, 0, 0, 9), 1);
        Edge.due("1 of 9999, debt 9999", debtBy(9999, 9999, 0, 1), 19997);

        Edge.says(II, "the debt grows by rate of a hundred (floor),");
        Edge.due("99 by 1", debtBy(1, 99, 1, 1), 99);
        Edge.due("100 by 1", debtBy(1, 100, 1, 1), 101);
        Edge.due("199 by 1", debtBy(1, 199, 1, 1), 200);
        Edge.due("100 by 99", debtBy(1, 100, 99, 1), 199);
        Edge.due("101 by 99: 99.99 more", debtBy(1, 101, 99, 1), 200);
        Edge.due("100 less 1, by 1", debtBy(1, 100, 1, 2), 99);
        Edge.due("99 and 1, by 1", debtBy(2, 99, 1, 1), 101);

        EmptyHat x = Check.crowned("need 2 debt 0 rate 0;stores p 9 yields 9;trick t takes 9 from p look 0;");
        Edge.says(II, "99999 at most.");
        int[] debts = {99996, 99997, 99998, 99999};
        for (int d : debts) {
            put(x, 0, d, 50, 9, 0, 0);
            x.show(0);
            Edge.due("has(4), " + d + " and 2", x.has(4), Math.min(99999, d + 2));
        }
        x.show(1);
        Edge.due("has(4), less 7", x.has(4), 99992);
        Check.crown(x, "need 0 debt 0 rate 99;stores p 9 yields 9;trick t takes 9 from p look 0;");
        // 50250 and 49747 are 99997; 50251 and 49748 are 99999; 50252 and 49749 are more.
        int[] grown = {99997, 99999, 99999};
        for (int i = 0; i < grown.length; i++) {
            put(x, 0, 50250 + i, 50, 9, 0, 0);
            x.show(0);
            Edge.due("has(4) of " + (50250 + i) + " by 99", x.has(4), grown[i]);
        }
    }

    private static void lastYear() {
        EmptyHat x = Check.crowned("need 1 debt 0 rate 0;stores p 9 yields 9;trick t takes 9 from p look 0;");
        Edge.says(II, "The YEAR is one more (999 at most).");
        put(x, 997, 0, 50, 9, 0, 0);
        Edge.due("show(0)", x.show(0), 0);
        Edge.due("has(3)", x.has(3), 998);
        Edge.due("years(1)", x.years(1), 1);
        Edge.due("has(3)", x.has(3), 999);
        Edge.due("show(0)", x.show(0), -1);
        Edge.due("years(1)", x.years(1), -1);
        Edge.due("chance(1)", x.chance(1), -1);
        Edge.due("has(3)", x.has(3), 999);
    }

    private static void acts() {
        EmptyHat x = Check.crowned(Check.FAIR);
        Edge.says(II, "ACTS: a YEAR with a told SHOW in place of the BEST;");
        Edge.due("best(0)", x.best(0), 5);
        Edge.due("show(2)", x.show(2), 30);
        Edge.due("trick(0, 3)", x.trick(0, 3), 0);
        Edge.due("trick(1, 3)", x.trick(1, 3), 1);
        Edge.due("has(3)", x.has(3), 1);
        Edge.due("has(10)", x.has(10), 1);

        Edge.says(II, "a WATCHER takes another seat;");
        Edge.due("sit(0, 7)", x.sit(0, 7), true);
        Edge.due("watcher(0, 0)", x.watcher(0, 0), 7);
        Edge.due("has(3)", x.has(3), 1);
        Edge.due("has(10)", x.has(10), 2);

        Edge.says(II, "coin is moved from a PROVINCE to another one (9999 at most there);");
        EmptyHat y = Check.crowned("need 1 debt 0 rate 0;stores a 100 yields 0;stores b 9950 yields 0;");
        Edge.due("10000 there", y.move(0, 1, 50), false);
        Edge.due("9999 there", y.move(0, 1, 49), true);
        Edge.due("province(0, 0)", y.province(0, 0), 51);
        Edge.due("province(1, 0)", y.province(1, 0), 9999);
        Edge.due("has(3)", y.has(3), 0);
        Edge.due("has(10)", y.has(10), 1);

        Edge.says(II, "YEARS;");
        Edge.due("years(3)", y.years(3), 0);
        Edge.due("has(10): one act", y.has(10), 2);
        y.undo();
        Edge.due("has(3)", y.has(3), 0);
    }

    private static final String TWO = "need 0 debt 0 rate 0;stores p 9 yields 0;trick a takes 1 from p look 0;"
        + "trick b takes 1 from p look 0;";

    private static void boys() {
        // By the seed 1: 18 of 100; then 5896899, the second one of two; then of 100 26, 80, 16.
        Edge.says(II, "YEARS by the seed: ahead of each a DRAW of 100: below boys, if there are TRICKS, a DRAW of these:");
        EmptyHat x = Check.crowned(TWO + "boys 18;");
        Edge.due("18 is not below 18", x.chance(1), 0);
        x = Check.crowned(TWO + "boys 19;");
        Edge.due("18 is below 19", x.chance(1), 1);
        Edge.due("trick(0, 4)", x.trick(0, 4), 0);
        Edge.due("trick(1, 4)", x.trick(1, 4), 50);
        Edge.due("26, 80, then 16 is below 19", x.chance(3), 1);
        Edge.due("5762514 of two is the first one", x.trick(0, 4), 50);
        x = Check.crowned("need 0 debt 0 rate 0;boys 100;");
        Edge.due("without TRICKS", x.chance(2), 0);
        Check.crown(x, TWO + "boys 27;");
        Edge.due("two DRAWS behind those two, 26 is below 27", x.chance(1), 1);
        Edge.due("17935980 of two is the first one", x.trick(0, 4), 50);
        // The boy comes ahead of the YEAR: what he tells is seen through in its SHOW.
        x = Check.crowned("need 1 debt 0 rate 0;stores p 9 yields 0;trick a takes 1 from p look 0;boys 100;");
        Edge.due("chance(2)", x.chance(2), 2);
        Edge.due("trick(0, 3): in the first YEAR alone", x.trick(0, 3), 1);

        Edge.says(II, "that one is KNOWN by 50 more (999 at most;");
        int[] known = {0, 50, 948, 949, 950, 999};
        for (int k : known) {
            put(x, 0, 0, 50, 9, 0, k);
            x.chance(1);
            Edge.due("trick(0, 4) behind " + k, x.trick(0, 4), Math.min(999, k + 50));
        }

        Edge.says(II, "BELIEF stays).");
        put(x, 0, 0, 50, 9, 0, 50);
        Edge.due("chance(1)", x.chance(1), 1);
        Edge.due("has(6)", x.has(6), 1);
        Edge.due("has(5)", x.has(5), 50);
        Edge.due("has(8)", x.has(8), 0);
    }

    private static void undone() {
        EmptyHat x = Check.crowned("need 0 debt 0 rate 0;stores a 100 yields 0;stores b 0 yields 0;");
        Edge.says(II, "The last 20 can be undone.");
        for (int i = 1; i <= 23; i++) {
            x.move(0, 1, 1);
            Edge.due("has(10) behind " + i, x.has(10), Math.min(20, i));
        }
        for (int i = 1; i <= 20; i++) {
            Edge.due("undo() " + i, x.undo(), true);
            Edge.due("province(1, 0)", x.province(1, 0), 23 - i);
        }
        Edge.due("undo() 21", x.undo(), false);
        Edge.due("province(1, 0)", x.province(1, 0), 3);
        Edge.due("has(10)", x.has(10), 0);
        for (int i = 1; i <= 21; i++) {
            x.move(0, 1, 1);
        }
        Edge.due("has(10) once more", x.has(10), 20);
        x.undo();
        Edge.due("province(1, 0) once more", x.province(1, 0), 23);
    }

    private static void kept() {
        StringBuilder b = new StringBuilder("need 0 debt 0 rate 0;stores p 9 yields 9;watch v seat 0 glass 0;"
            + "watch w seat 0 glass 0;sees 50;loses 10+year;");
        for (char c = 'a'; c <= 'f'; c++) {
            b.append("trick ").append(c).append(" takes 1 from p look 0;");
        }
        EmptyHat x = Check.crowned(b.toString());
        Edge.says(II, "KEPT is each TRICK SEEN THROUGH in a SHOW: YEAR, TRICK, the BELIEF then;");
        x.show(4);
        x.show(0);
        x.show(3);
        int[][] due = {{0, 2, 40}, {2, 0, 28}, {2, 1, 16}, {3, 5, 3}, {4, 3, 0}};
        Edge.due("has(8)", x.has(8), 3);
        for (int k = 0; k < 3; k++) {
            for (int what = 0; what < 3; what++) {
                Edge.due("kept(" + k + ", " + what + ")", x.kept(k, what), due[k][what]);
            }
        }

        // A TRICK is seen through once, and there are six: no run of calls keeps more than these.
        Edge.says(II, "the last 30 are told.");
        x.show(32);
        x.show(8);
        Edge.due("has(8)", x.has(8), 5);
        for (int k = 0; k < 5; k++) {
            for (int what = 0; what < 3; what++) {
                Edge.due("kept(" + k + ", " + what + ")", x.kept(k, what), due[k][what]);
            }
        }
        Check.crown(x, b.toString().replace("10+year", "1"));
        Edge.due("show(63)", x.show(63), 6);
        Edge.due("has(8) of all six", x.has(8), 6);
        for (int k = 0; k < 6; k++) {
            Edge.due("kept(" + k + ", 1)", x.kept(k, 1), k);
            Edge.due("kept(" + k + ", 2)", x.kept(k, 2), 49 - k);
        }
    }

    private static void draws() {
        Edge.says(II, "A DRAW of m: x (the seed) becomes (1103515245 x + 12345) mod 2 to the 31; floor(x / 64) mod m.");
        // By the seed 2088216195 x becomes 0, by 230538014 the greatest, 2147483647.
        int[][] due = {{1, 18}, {0, 92}, {Integer.MAX_VALUE, 99}, {2088216195, 0}, {1010340958, 0}, {720535491, 1},
            {230538014, 31}};
        for (int[] d : due) {
            for (int boys = d[1]; boys <= d[1] + 1; boys++) {
                EmptyHat x = Check.crowned(TWO + "boys " + boys + ";");
                x.seed(d[0]);
                Edge.due("chance(1) by seed " + d[0] + ", boys " + boys, x.chance(1), boys - d[1]);
            }
        }
        // 18 of 100, then 5896899 of three is the first one, of six the fourth one.
        EmptyHat x = Check.crowned(TWO + "trick c takes 1 from p look 0;boys 100;");
        x.chance(1);
        Edge.due("trick(0, 4) of three", x.trick(0, 4), 50);
        x = Check.crowned(TWO + "trick c takes 1 from p look 0;trick d takes 1 from p look 0;"
            + "trick e takes 1 from p look 0;trick f takes 1 from p look 0;boys 100;");
        x.chance(1);
        Edge.due("trick(3, 4) of six", x.trick(3, 4), 50);
    }
}
