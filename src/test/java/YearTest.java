/** Promises 6, 9, 11 to 14 and 24, term II: sights, shows and years. */
public final class YearTest {
    private static final Check CHECK = new Check("YearTest");

    public static void main(String[] args) {
        yearsByHand();
        bestShows();
        appearing();
        showsGiven();
        severalSeenThrough();
        lossesAtTheEdges();
        sightOfYearAndTimes();
        limits();
        curtainDown();
        CHECK.finish();
    }

    /** Sight 54 a show: in YEAR 1 the trick is seen through. */
    private static final String SLOW = "need 10 debt 50 rate 10;stores p 9 yields 5;trick t takes 20 from p look 2;"
        + "watch w seat 1 glass 9;sees glass*6;loses times*3+year;belief 30;";

    private static void yearsByHand() {
        EmptyHat x = Check.crowned(SLOW);
        CHECK.due("sight(0, 0)", x.sight(0, 0), 54);
        CHECK.due("years(1)", x.years(1), 1);
        state(x, 1, 50, 30, 0);
        CHECK.due("trick(0, 3)", x.trick(0, 3), 1);
        CHECK.due("trick(0, 4)", x.trick(0, 4), 54);
        CHECK.due("years(1)", x.years(1), 0);
        state(x, 2, 60, 23, 0);
        CHECK.due("has(6)", x.has(6), 1);
        CHECK.due("trick(0, 4)", x.trick(0, 4), 108);
        CHECK.due("kept(0, 0)", x.kept(0, 0), 1);
        CHECK.due("kept(0, 1)", x.kept(0, 1), 0);
        CHECK.due("kept(0, 2)", x.kept(0, 2), 23);
        CHECK.due("kept(0, 3)", x.kept(0, 3), -1);
        CHECK.due("kept(0, -1)", x.kept(0, -1), -1);
        CHECK.due("kept(1, 0)", x.kept(1, 0), -1);
        CHECK.due("kept(-1, 0)", x.kept(-1, 0), -1);
        CHECK.due("best(0)", x.best(0), 0);
        CHECK.due("appears(1)", x.appears(1), -1);
        CHECK.due("show(1)", x.show(1), -1);
        CHECK.due("years(1)", x.years(1), 0);
        state(x, 3, 77, 23, 5);
        CHECK.due("trick(0, 3)", x.trick(0, 3), 2);
    }

    private static void state(EmptyHat x, int year, int debt, int belief, int coin) {
        CHECK.due("YEAR", x.has(3), year);
        CHECK.due("debt of YEAR " + year, x.has(4), debt);
        CHECK.due("BELIEF of YEAR " + year, x.has(5), belief);
        CHECK.due("coin of YEAR " + year, x.has(7), coin);
    }

    /** Without watchers all sights are 0; with one the looks are the sights. */
    private static EmptyHat tricks(int need, String watch, int... takesAndLooks) {
        StringBuilder b = new StringBuilder("need " + need + " debt 0 rate 0;stores p 100 yields 0;" + watch);
        for (int i = 0; i < takesAndLooks.length; i += 2) {
            b.append("trick t").append((char) ('a' + i)).append(" takes ").append(takesAndLooks[i])
                .append(" from p look ").append(takesAndLooks[i + 1]).append(";");
        }
        return Check.crowned(b.append("sees look;").toString());
    }

    private static void best(EmptyHat x, int show, int appears, int sight) {
        CHECK.due("best(0)", x.best(0), show);
        CHECK.due("best(1)", x.best(1), appears);
        CHECK.due("best(2)", x.best(2), sight);
        CHECK.due("best(3)", x.best(3), -1);
        CHECK.due("best(-1)", x.best(-1), -1);
    }

    private static void bestShows() {
        String one = "watch w seat 0 glass 0;";
        // Enough by the least sight, not by most that appears.
        best(tricks(20, one, 50, 5, 20, 4, 19, 0), 2, 20, 4);
        best(tricks(20, one, 20, 5, 10, 2, 10, 2), 6, 20, 4);
        // Of like sight the fewest, then the least bits.
        best(tricks(20, one, 10, 2, 10, 2, 20, 4), 4, 20, 4);
        best(tricks(20, one, 30, 4, 20, 4, 25, 4), 1, 30, 4);
        best(tricks(20, "", 10, 2, 10, 2, 10, 2), 3, 20, 0);
        // None is enough: most, then least sight, fewest, least bits.
        best(tricks(200, one, 60, 5, 40, 4, 60, 3), 6, 100, 7);
        best(tricks(200, one, 10, 5, 20, 4), 3, 30, 9);
        best(tricks(200, "", 100, 0, 50, 0, 50, 0), 1, 100, 0);
        best(tricks(200, "", 50, 0, 50, 0, 50, 0), 3, 100, 0);
        // A trick that adds nothing and is not seen is not of the fewest.
        best(tricks(100, one, 100, 0, 5, 0), 1, 100, 0);
        best(tricks(0, one, 5, 0), 0, 0, 0);
        best(tricks(1, one), 0, 0, 0);
        // The yields have come.
        best(Check.crowned("need 5 debt 0 rate 0;stores p 0 yields 7;trick t takes 9 from p look 0;"), 1, 7, 0);
    }

    private static void appearing() {
        EmptyHat x = Check.crowned(Check.FAIR);
        int[] due = {0, 40, 30, 70, 25, 65, 55, 95};
        for (int show = 0; show < 8; show++) {
            CHECK.due("appears(" + show + ")", x.appears(show), due[show]);
        }
        CHECK.due("appears(8)", x.appears(8), -1);
        CHECK.due("appears(-1)", x.appears(-1), -1);
        CHECK.due("appears(MIN)", x.appears(Integer.MIN_VALUE), -1);
        CHECK.due("appears(64)", x.appears(64), -1);
        CHECK.due("all stays", x.has(7), 80);
        // As far as there is: 30 in store, 40 and 25 wanted.
        x = Check.crowned("need 1 debt 0 rate 0;stores p 20 yields 10;trick a takes 40 from p look 0;"
            + "trick b takes 25 from p look 0;");
        CHECK.due("appears(1)", x.appears(1), 30);
        CHECK.due("appears(2)", x.appears(2), 25);
        CHECK.due("appears(3)", x.appears(3), 30);
    }

    private static void showsGiven() {
        EmptyHat x = Check.crowned(Check.FAIR);
        CHECK.due("show(3)", x.show(3), 70);
        // 10 beyond the need pay debt: 90, and 9 of it more.
        state(x, 1, 99, 40, 40);
        CHECK.due("province(0, 0)", x.province(0, 0), 30);
        CHECK.due("province(1, 0)", x.province(1, 0), 10);
        CHECK.due("trick(0, 4)", x.trick(0, 4), 10);
        CHECK.due("trick(1, 4)", x.trick(1, 4), 26);
        CHECK.due("trick(2, 4)", x.trick(2, 4), 0);
        CHECK.due("trick(2, 3)", x.trick(2, 3), 0);
        CHECK.due("sight(0, 0): shown once", x.sight(0, 0), 20);
        CHECK.due("sight(0, 1)", x.sight(0, 1), 5);
        CHECK.due("show(0)", x.show(0), 0);
        // All of the need lacks: 159, and 15 more.
        state(x, 2, 174, 40, 70);
        CHECK.due("show(8)", x.show(8), -1);
        CHECK.due("show(-1)", x.show(-1), -1);
        CHECK.due("status(2)", x.status(2), 2);
        CHECK.due("has(10)", x.has(10), 2);
        CHECK.due("without a crown", new EmptyHat().show(0), -1);
        // What is more than the debt is lost.
        x = Check.crowned("need 5 debt 3 rate 50;stores p 100 yields 0;trick t takes 90 from p look 0;");
        CHECK.due("show(1)", x.show(1), 90);
        state(x, 1, 0, 50, 10);
    }

    private static void severalSeenThrough() {
        EmptyHat x = Check.crowned("need 9 debt 0 rate 0;stores p 9 yields 9;trick a takes 3 from p look 1;"
            + "trick b takes 3 from p look 1;trick c takes 3 from p look 0;watch v seat 0 glass 0;"
            + "watch w seat 0 glass 0;sees look*60;loses belief/2;belief 41;");
        CHECK.due("trick(0, 5)", x.trick(0, 5), 120);
        CHECK.due("watcher(0, 2)", x.watcher(0, 2), 120);
        CHECK.due("best(0)", x.best(0), 7);
        CHECK.due("best(2)", x.best(2), 240);
        CHECK.due("show(7)", x.show(7), 9);
        CHECK.due("BELIEF", x.has(5), 11);
        int[][] kept = {{0, 0, 21}, {0, 1, 11}};
        CHECK.due("has(8)", x.has(8), 2);
        for (int k = 0; k < 2; k++) {
            for (int what = 0; what < 3; what++) {
                CHECK.due("kept(" + k + ", " + what + ")", x.kept(k, what), kept[k][what]);
            }
        }
        CHECK.due("appears(1)", x.appears(1), -1);
        CHECK.due("appears(2)", x.appears(2), -1);
        CHECK.due("appears(4)", x.appears(4), 3);
        CHECK.due("has(6)", x.has(6), 2);
        CHECK.due("undo()", x.undo(), true);
        CHECK.due("has(8) undone", x.has(8), 0);
    }

    private static void lossesAtTheEdges() {
        String head = "need 1 debt 0 rate 0;stores p 9 yields 9;trick t takes 7 from p look 4;watch w seat 0 glass 0;"
            + "watch v seat 0 glass 0;sees 50;belief 20;";
        lost(head, 10);
        lost(head + "loses 0-5;", 20);
        lost(head + "loses 20;", 0);
        lost(head + "loses 9999;", 0);
        lost(head + "loses takes+look+times*2+year*100;", 7);
        lost(head + "loses belief-1;", 1);
        // 99 is not yet seen through.
        EmptyHat x = Check.crowned("need 1 debt 0 rate 0;stores p 9 yields 9;trick t takes 7 from p look 4;"
            + "watch w seat 0 glass 0;sees 99;");
        x.show(1);
        CHECK.due("known by 99", x.has(6), 0);
        CHECK.due("appears(1)", x.appears(1), 7);
        x.show(1);
        CHECK.due("known by 198", x.trick(0, 4), 198);
        CHECK.due("has(6)", x.has(6), 1);
    }

    private static void lost(String text, int belief) {
        EmptyHat x = Check.crowned(text);
        x.show(1);
        CHECK.due("BELIEF by " + text, x.has(5), belief);
        CHECK.due("kept(0, 2) by " + text, x.kept(0, 2), belief);
        CHECK.due("has(8) by " + text, x.has(8), 1);
    }

    private static void sightOfYearAndTimes() {
        EmptyHat x = Check.crowned("need 0 debt 0 rate 0;stores p 9 yields 9;trick t takes 7 from p look 4;"
            + "watch w seat 0 glass 0;sees 10*year+times;");
        x.show(1);
        CHECK.due("known in YEAR 0", x.trick(0, 4), 0);
        CHECK.due("sight in YEAR 1", x.sight(0, 0), 11);
        x.show(0);
        CHECK.due("sight in YEAR 2", x.sight(0, 0), 21);
        x.show(1);
        CHECK.due("known by it", x.trick(0, 4), 21);
        CHECK.due("sight(1, 0)", x.sight(1, 0), -1);
        CHECK.due("sight(0, 1)", x.sight(0, 1), -1);
        CHECK.due("sight(-1, 0)", x.sight(-1, 0), -1);
        CHECK.due("sight(0, -1)", x.sight(0, -1), -1);
    }

    private static void limits() {
        EmptyHat x = Check.crowned("need 9999 debt 9999 rate 99;stores p 9990 yields 999;");
        CHECK.due("years(1)", x.years(1), 0);
        CHECK.due("stores hold 9999", x.province(0, 0), 9999);
        CHECK.due("debt 19998 and 19798 more", x.has(4), 39796);
        x.years(1);
        CHECK.due("debt 49795 and 49297 more", x.has(4), 99092);
        x.years(1);
        CHECK.due("debt at most", x.has(4), 99999);
        x.years(100);
        CHECK.due("debt at most", x.has(4), 99999);
        // Known and shown at most: by an image.
        x = Check.crowned("need 1 debt 0 rate 0;stores p 9 yields 9;trick t takes 7 from p look 4;sees 1;boys 100;");
        CHECK.due("on()", Check.on(x, Check.imageOf(0, 0, 0, 0, 0, 9, 0, 9, 0x27, 0x0f, 0, 99)), true);
        CHECK.due("show(1)", x.show(1), 7);
        CHECK.due("shown at most", x.trick(0, 3), 9999);
        x.chance(30);
        CHECK.due("known at most", x.trick(0, 4), 999);
        CHECK.due("BELIEF stays", x.has(5), 9);
        CHECK.due("nothing is kept", x.has(8), 0);
    }

    private static void curtainDown() {
        EmptyHat x = Check.crowned("need 1 debt 0 rate 0;stores p 9 yields 9;trick a takes 7 from p look 4;"
            + "trick b takes 7 from p look 4;watch w seat 0 glass 0;watch v seat 0 glass 0;sees 50;loses 60;");
        CHECK.due("show(1)", x.show(1), 7);
        CHECK.due("BELIEF", x.has(5), 0);
        CHECK.due("best(0)", x.best(0), 0);
        CHECK.due("appears(0)", x.appears(0), 0);
        CHECK.due("appears(2)", x.appears(2), -1);
        CHECK.due("show(2)", x.show(2), -1);
        CHECK.due("show(0)", x.show(0), 0);
        CHECK.due("years(3)", x.years(3), 0);
        CHECK.due("debt", x.has(4), 4);
        CHECK.due("shows(0)", x.shows(0), 1);
    }
}
