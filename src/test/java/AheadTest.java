/** Promises 15 to 18, term III: years ahead. */
public final class AheadTest {
    private static final Check CHECK = new Check("AheadTest");
    private static final String SLOW = "need 10 debt 50 rate 10;stores p 9 yields 5;trick t takes 20 from p look 2;"
        + "watch w seat 1 glass 9;sees glass*6;loses times*3+year;belief 30;";
    /** Seen through by its second show; then BELIEF is 0. */
    private static final String SHORT = "need 5 debt 0 rate 0;stores p 100 yields 0;trick t takes 9 from p look 0;"
        + "watch w seat 0 glass 9;sees 50;loses 99;belief 40;";

    public static void main(String[] args) {
        laterYears();
        curtains();
        drops();
        worths();
        pairs();
        lastYears();
        afterActs();
        CHECK.finish();
    }

    private static void laterYears() {
        EmptyHat x = Check.crowned(SLOW);
        int[][] due = {{50, 30, 0, 9}, {50, 30, 0, 0}, {60, 23, 1, 0}, {77, 23, 1, 5}};
        for (int n = 3; n >= 0; n--) {
            for (int what = 0; what < 4; what++) {
                CHECK.due("later(" + n + ", " + what + ")", x.later(n, what), due[n][what]);
            }
        }
        CHECK.due("later(60, 2)", x.later(60, 2), 1);
        CHECK.due("later(61, 0)", x.later(61, 0), -1);
        CHECK.due("later(-1, 0)", x.later(-1, 0), -1);
        CHECK.due("later(0, 4)", x.later(0, 4), -1);
        CHECK.due("later(0, -1)", x.later(0, -1), -1);
        CHECK.due("nothing has changed", x.has(3), 0);
        CHECK.due("nothing is kept", x.has(8), 0);
        CHECK.due("without a crown", new EmptyHat().later(0, 0), -1);
        // No boys ahead, whatever the crown says of them.
        x = Check.crowned(SLOW + "boys 100;");
        CHECK.due("later(1, 2)", x.later(1, 2), 0);
    }

    private static void curtains() {
        EmptyHat x = Check.crowned(SHORT);
        CHECK.due("curtain()", x.curtain(), 2);
        x.show(1);
        CHECK.due("curtain() a year on", x.curtain(), 1);
        x.show(1);
        CHECK.due("curtain() now", x.curtain(), 0);
        CHECK.due("never", Check.crowned(SLOW).curtain(), -1);
        CHECK.due("without a crown", new EmptyHat().curtain(), -1);
        // One show a year, one more seen each, 100 of them: beyond what is looked at.
        String far = "need 5 debt 0 rate 0;stores p 999 yields 9;trick t takes 9 from p look 0;watch w seat 0 glass 1;"
            + "loses 99;";
        x = Check.crowned(far);
        CHECK.due("in a hundred years", x.curtain(), -1);
        x.years(39);
        CHECK.due("in 61", x.curtain(), -1);
        x.years(1);
        CHECK.due("in 60", x.curtain(), 60);
    }

    private static void drops() {
        EmptyHat x = Check.crowned(SLOW);
        // 2950, 2950, 2240, 2223
        CHECK.due("drop(3)", x.drop(3), 0);
        CHECK.due("drop(0)", x.drop(0), 0);
        CHECK.due("drop(61)", x.drop(61), -1);
        CHECK.due("drop(-1)", x.drop(-1), -1);
        CHECK.due("without a crown", new EmptyHat().drop(0), -1);
        // The debt is paid by 10 a year until the store is empty.
        x = Check.crowned("need 0 debt 25 rate 0;stores p 40 yields 0;trick t takes 10 from p look 0;");
        CHECK.due("no show without need", x.drop(9), 0);
        x = Check.crowned("need 1 debt 25 rate 0;stores p 40 yields 0;trick t takes 11 from p look 0;");
        int[] debts = {25, 15, 5, 0, 0, 1, 2};
        int[] due = {0, 1, 2, 3, 3, 3, 3};
        for (int n = 0; n < due.length; n++) {
            // Behind three YEARS 7 are left: 6 beyond the need.
            CHECK.due("later(" + n + ", 0)", x.later(n, 0), debts[n]);
            CHECK.due("drop(" + n + ")", x.drop(n), due[n]);
        }
    }

    /** A hundred of debt weigh as much as one of BELIEF. */
    private static void worths() {
        for (int takes = 99; takes <= 102; takes++) {
            EmptyHat x = Check.crowned("need 1 debt 500 rate 0;stores p 900 yields 0;trick t takes " + takes
                + " from p look 0;watch v seat 0 glass 0;watch w seat 0 glass 0;sees 50;loses 1;");
            CHECK.due("drop(1) by " + takes, x.drop(1), takes > 101 ? 1 : 0);
        }
    }

    private static void pair(EmptyHat x, int first, int second, int debt, int belief) {
        CHECK.due("both(3)", x.both(3), belief);
        CHECK.due("both(2)", x.both(2), debt);
        CHECK.due("both(1)", x.both(1), second);
        CHECK.due("both(0)", x.both(0), first);
        CHECK.due("both(4)", x.both(4), -1);
        CHECK.due("both(-1)", x.both(-1), -1);
    }

    private static void pairs() {
        pair(Check.crowned(Check.FAIR), 7, 3, 94, 40);
        pair(Check.crowned(SHORT), 1, 1, 0, 0);
        pair(Check.crowned("need 0 debt 0 rate 0;stores p 9 yields 9;trick t takes 9 from p look 0;"), 0, 0, 0, 50);
        pair(Check.crowned("need 0 debt 5 rate 0;stores p 9 yields 9;trick t takes 9 from p look 0;"), 0, 1, 0, 50);
        // The first show is the dearer one by rate: to pay at once is less.
        pair(Check.crowned("need 0 debt 20 rate 50;stores p 10 yields 0;trick t takes 10 from p look 0;"),
            1, 0, 22, 50);
        // BELIEF most, of like debt: t is seen through by one show, u never, and both take the same.
        pair(Check.crowned("need 0 debt 7 rate 0;stores p 7 yields 0;trick t takes 7 from p look 9;"
            + "trick u takes 7 from p look 0;watch v seat 0 glass 0;watch w seat 0 glass 0;sees look*9;"), 0, 2, 0, 50);
        // Seen through by the first show: not in the second one.
        pair(Check.crowned("need 0 debt 90 rate 0;stores p 90 yields 0;trick t takes 20 from p look 9;"
            + "trick u takes 10 from p look 0;watch v seat 0 glass 0;watch w seat 0 glass 0;sees look*9;"),
            2, 3, 50, 40);
        // The curtain falls by the first show: the second one is empty.
        pair(Check.crowned("need 0 debt 90 rate 0;stores p 30 yields 0;trick t takes 30 from p look 9;"
            + "watch v seat 0 glass 0;watch w seat 0 glass 0;sees look*9;loses 50;"), 0, 1, 60, 0);
        // The second sight is that of a trick shown once more, in the next YEAR.
        String often = "need 0 debt 90 rate 0;stores p 90 yields 0;trick t takes 10 from p look 0;"
            + "trick u takes 10 from p look 0;watch v seat 0 glass 0;watch w seat 0 glass 0;";
        pair(Check.crowned(often + "sees times*50;"), 3, 3, 50, 30);
        pair(Check.crowned(often + "sees times/2*50;"), 3, 3, 50, 50);
        pair(Check.crowned(often + "sees year*50;"), 3, 3, 50, 30);
        pair(Check.crowned(often + "sees year/2*50;"), 3, 3, 50, 50);
        pair(Check.crowned(often + "sees (1-times)*50;"), 0, 3, 70, 30);
        // Debt that can't grow is the least debt, too.
        EmptyHat x = Check.crowned("need 9999 debt 0 rate 99;");
        x.years(9);
        pair(x, 0, 0, 99999, 50);
        CHECK.due("without a crown", new EmptyHat().both(0), -1);
        // Sight grows by the YEAR: what is not seen through now would be next YEAR.
        pair(Check.crowned("need 0 debt 9 rate 0;stores p 9 yields 0;trick t takes 9 from p look 0;"
            + "watch v seat 0 glass 0;watch w seat 0 glass 0;sees year*60;"), 1, 0, 0, 50);
    }

    private static void lastYears() {
        EmptyHat x = Check.crowned("need 1 debt 0 rate 0;stores p 9 yields 0;");
        int[][] at = {{996, 3}, {997, 2}, {998, 1}, {999, 0}};
        for (int[] a : at) {
            CHECK.due("on()", Check.on(x, Check.imageOf(a[0] >> 8, a[0] & 255, 0, 0, 0, 50, 0, 9)), true);
            String then = " in YEAR " + a[0];
            CHECK.due("later(n)" + then, x.later(a[1], 0), a[1]);
            CHECK.due("later(n + 1)" + then, x.later(a[1] + 1, 0), -1);
            CHECK.due("drop(n)" + then, x.drop(a[1]), 0);
            CHECK.due("drop(n + 1)" + then, x.drop(a[1] + 1), -1);
            CHECK.due("both(2)" + then, x.both(2), a[1] >= 2 ? 2 : -1);
            CHECK.due("curtain()" + then, x.curtain(), -1);
            CHECK.due("best(0)" + then, x.best(0), 0);
            CHECK.due("appears(0)" + then, x.appears(0), 0);
        }
        Check.on(x, Check.imageOf(3, 231, 0, 0, 0, 0, 0, 9));
        CHECK.due("curtain() down in YEAR 999", x.curtain(), 0);
    }

    /** What is ahead is asked anew behind whatever changes. */
    private static void afterActs() {
        EmptyHat x = Check.crowned(SHORT);
        CHECK.due("curtain()", x.curtain(), 2);
        CHECK.due("both(2)", x.both(2), 0);
        x.show(0);
        CHECK.due("later(0, 0) behind show", x.later(0, 0), 5);
        CHECK.due("later(1, 0) behind show", x.later(1, 0), 1);
        CHECK.due("both(0) behind show", x.both(0), 1);
        x.undo();
        CHECK.due("later(0, 0) behind undo", x.later(0, 0), 0);
        x.years(1);
        CHECK.due("curtain() behind years", x.curtain(), 1);
        x.undo();
        x.chance(1);
        CHECK.due("curtain() behind chance", x.curtain(), 1);
        Check.on(x, Check.imageOf(0, 0, 0, 0, 7, 3, 0, 0, 0, 0, 0, 0, 5));
        CHECK.due("later(0, 0) behind on", x.later(0, 0), 7);
        CHECK.due("later(1, 0) behind on", x.later(1, 0), 12);
        Check.crown(x, SHORT);
        CHECK.due("later(0, 0) behind crown", x.later(0, 0), 0);
        Check.crown(x, SHORT.replace("sees 50", "sees 50+seat*5"));
        CHECK.due("curtain()", x.curtain(), 2);
        x.sit(0, 9);
        CHECK.due("curtain() behind sit", x.curtain(), 2);
        x.years(1);
        CHECK.due("known", x.trick(0, 4), 95);
        x.undo();
        x.undo();
        Check.crown(x, SHORT.replace("sees 50", "sees 50-seat*5"));
        CHECK.due("curtain()", x.curtain(), 2);
        x.sit(0, 5);
        CHECK.due("curtain() behind sit", x.curtain(), 4);
        x = Check.crowned(Check.FAIR);
        CHECK.due("later(1, 3)", x.later(1, 3), 45);
        x.move(0, 1, 50);
        EmptyHat y = Check.crowned(Check.FAIR.replace("west 50", "west 0").replace("east 30", "east 80"));
        for (int what = 0; what < 4; what++) {
            CHECK.due("later(3) behind move", x.later(3, what), y.later(3, what));
            CHECK.due("both behind move", x.both(what), y.both(what));
        }
    }
}
