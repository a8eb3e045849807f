/** Promises 24 to 30, term II: acts, the seed, what is undone. */
public final class ActTest {
    private static final Check CHECK = new Check("ActTest");

    public static void main(String[] args) {
        sitting();
        moving();
        passing();
        boys();
        undone();
        onlyTwenty();
        keptIsUndone();
        lastYear();
        CHECK.finish();
    }

    private static void sitting() {
        EmptyHat x = Check.crowned(Check.FAIR);
        CHECK.due("sit(0, 2): it is his", x.sit(0, 2), false);
        CHECK.due("sit(0, 10)", x.sit(0, 10), false);
        CHECK.due("sit(0, -1)", x.sit(0, -1), false);
        CHECK.due("sit(2, 1)", x.sit(2, 1), false);
        CHECK.due("sit(-1, 1)", x.sit(-1, 1), false);
        CHECK.due("status(2)", x.status(2), 5);
        CHECK.due("has(10)", x.has(10), 0);
        CHECK.due("sit(0, 0)", x.sit(0, 0), true);
        CHECK.due("sit(1, 0): two may have one seat", x.sit(1, 0), true);
        CHECK.due("sit(1, 9)", x.sit(1, 9), true);
        CHECK.due("watcher(0, 0)", x.watcher(0, 0), 0);
        CHECK.due("watcher(1, 0)", x.watcher(1, 0), 9);
        CHECK.due("sight(0, 0)", x.sight(0, 0), 12);
        CHECK.due("YEAR", x.has(3), 0);
    }

    private static void moving() {
        EmptyHat x = Check.crowned("need 1 debt 0 rate 0;stores a 100 yields 0;stores b 9950 yields 0;"
            + "stores c 0 yields 0;");
        int[][] cannot = {{0, 1, 50}, {0, 2, 101}, {0, 0, 1}, {0, 3, 1}, {3, 0, 1}, {-1, 0, 1}, {0, -1, 1}, {0, 2, 0},
            {0, 2, -5}, {2, 0, 1}, {1, 2, 10000}, {1, 2, Integer.MAX_VALUE}, {1, 2, Integer.MIN_VALUE}};
        for (int[] m : cannot) {
            CHECK.due("move(" + m[0] + ", " + m[1] + ", " + m[2] + ")", x.move(m[0], m[1], m[2]), false);
        }
        CHECK.due("status(2)", x.status(2), cannot.length);
        CHECK.due("has(10)", x.has(10), 0);
        CHECK.due("move(0, 1, 49)", x.move(0, 1, 49), true);
        CHECK.due("province(0, 0)", x.province(0, 0), 51);
        CHECK.due("province(1, 0)", x.province(1, 0), 9999);
        CHECK.due("move(1, 2, 9999)", x.move(1, 2, 9999), true);
        CHECK.due("province(2, 0)", x.province(2, 0), 9999);
        CHECK.due("province(1, 0)", x.province(1, 0), 0);
        CHECK.due("move(0, 1, 51)", x.move(0, 1, 51), true);
        CHECK.due("has(10)", x.has(10), 3);
        CHECK.due("without a crown", new EmptyHat().move(0, 1, 1), false);
    }

    private static void passing() {
        EmptyHat x = Check.crowned("need 5 debt 0 rate 0;stores p 12 yields 0;trick t takes 5 from p look 0;");
        CHECK.due("years(0)", x.years(0), -1);
        CHECK.due("years(101)", x.years(101), -1);
        CHECK.due("years(-1)", x.years(-1), -1);
        CHECK.due("chance(0)", x.chance(0), -1);
        CHECK.due("chance(101)", x.chance(101), -1);
        CHECK.due("status(3)", x.status(3), 5);
        CHECK.due("years(4)", x.years(4), 2);
        CHECK.due("has(10): one act", x.has(10), 1);
        CHECK.due("debt 3, 8", x.has(4), 8);
        CHECK.due("YEAR", x.has(3), 4);
        CHECK.due("years(100)", x.years(100), 0);
        CHECK.due("YEAR", x.has(3), 104);
        CHECK.due("nothing is needed", Check.crowned("need 0 debt 0 rate 0;").years(7), 7);
        CHECK.due("years without a crown", new EmptyHat().years(1), -1);
        CHECK.due("chance without a crown", new EmptyHat().chance(1), -1);
    }

    /** By seed 1 the draws x are 1103527590, 377401575, 662824084, 1147902781, 2035015474, 368800899, .. */
    private static void boys() {
        String two = "need 0 debt 0 rate 0;stores p 9 yields 0;trick a takes 1 from p look 0;"
            + "trick b takes 1 from p look 0;boys ";
        // 18 of a hundred is not below 18.
        EmptyHat x = Check.crowned(two + "18;");
        CHECK.due("boys 18", x.chance(1), 0);
        CHECK.due("known", x.trick(0, 4) + x.trick(1, 4), 0);
        // 18; then of two 5896899: the second one; 26; 80; 16; of two 5762514: the first one.
        x = Check.crowned(two + "19;");
        CHECK.due("boys 19, a year", x.chance(1), 1);
        CHECK.due("trick(1, 4)", x.trick(1, 4), 50);
        CHECK.due("boys 19, three years", x.chance(3), 1);
        CHECK.due("trick(0, 4)", x.trick(0, 4), 50);
        CHECK.due("trick(1, 4)", x.trick(1, 4), 50);
        CHECK.due("YEAR", x.has(3), 4);
        CHECK.due("has(10)", x.has(10), 2);
        // All at once is the same.
        EmptyHat y = Check.crowned(two + "19;");
        CHECK.due("seed(1)", y.seed(1), true);
        CHECK.due("four years", y.chance(4), 2);
        CHECK.due("trick(0, 4)", y.trick(0, 4), 50);
        // The seed goes on behind undo.
        y.undo();
        CHECK.due("known undone", y.trick(0, 4) + y.trick(1, 4), 0);
        y.seed(377401575);
        CHECK.due("26 of a hundred", y.chance(1), 0);
        y.undo();
        CHECK.due("80 of a hundred", y.chance(1), 0);
        y.undo();
        CHECK.due("16 of a hundred", y.chance(1), 1);
        CHECK.due("seed(-1)", y.seed(-1), false);
        CHECK.due("seed(MIN)", y.seed(Integer.MIN_VALUE), false);
        CHECK.due("seed(0)", y.seed(0), true);
        CHECK.due("seed(MAX)", y.seed(Integer.MAX_VALUE), true);
        CHECK.due("status(5)", y.status(5), 2);
        CHECK.due("a seed is no act", y.has(10), 1);
        // A boy comes ahead of the show: by two the trick is seen through, BELIEF stays, nothing is kept.
        x = Check.crowned("need 1 debt 0 rate 0;stores p 9 yields 0;trick a takes 1 from p look 0;boys 100;");
        CHECK.due("boys 100", x.chance(3), 3);
        CHECK.due("shown in the first year alone", x.trick(0, 3), 1);
        CHECK.due("trick(0, 4)", x.trick(0, 4), 150);
        CHECK.due("BELIEF", x.has(5), 50);
        CHECK.due("has(8)", x.has(8), 0);
        CHECK.due("has(6)", x.has(6), 1);
        // Without tricks there is but one draw a year: 18, then 99.
        x = Check.crowned("need 0 debt 0 rate 0;boys 100;");
        CHECK.due("no tricks", x.chance(1), 0);
        Check.crown(x, two + "100;");
        CHECK.due("the next draws", x.chance(1), 1);
        CHECK.due("10356626 of two: the first one", x.trick(0, 4), 50);
    }

    private static void undone() {
        EmptyHat x = Check.crowned(Check.FAIR);
        CHECK.due("undo()", x.undo(), false);
        CHECK.due("status(4)", x.status(4), 1);
        x.show(7);
        x.sit(1, 3);
        x.move(1, 0, 10);
        x.years(3);
        x.chance(5);
        CHECK.due("has(10)", x.has(10), 5);
        CHECK.due("YEAR", x.has(3), 9);
        x.undo();
        CHECK.due("chance undone", x.has(3), 4);
        x.undo();
        CHECK.due("years undone", x.has(3), 1);
        CHECK.due("west", x.province(0, 0), 15);
        CHECK.due("east", x.province(1, 0), 0);
        x.undo();
        CHECK.due("west", x.province(0, 0), 5);
        CHECK.due("east", x.province(1, 0), 10);
        CHECK.due("bea", x.watcher(1, 0), 3);
        x.undo();
        CHECK.due("bea", x.watcher(1, 0), 8);
        x.undo();
        int[] has = {2, 3, 2, 0, 100, 40, 0, 80, 0, 0, 0};
        for (int what = 0; what < has.length; what++) {
            CHECK.due("has(" + what + ")", x.has(what), has[what]);
        }
        for (int t = 0; t < 3; t++) {
            CHECK.due("shown", x.trick(t, 3), 0);
            CHECK.due("known", x.trick(t, 4), 0);
        }
        CHECK.due("undo()", x.undo(), false);
        CHECK.due("status(4)", x.status(4), 2);
        // What was refused is no act.
        x.show(9);
        x.sit(0, 2);
        x.move(0, 1, 0);
        x.years(0);
        x.chance(0);
        CHECK.due("undo()", x.undo(), false);
    }

    private static void onlyTwenty() {
        EmptyHat x = Check.crowned("need 0 debt 0 rate 0;stores a 100 yields 0;stores b 0 yields 0;");
        for (int i = 1; i <= 47; i++) {
            x.move(0, 1, 1);
            CHECK.due("has(10) behind " + i, x.has(10), Math.min(20, i));
        }
        for (int i = 1; i <= 20; i++) {
            CHECK.due("undo() " + i, x.undo(), true);
            CHECK.due("province(1, 0)", x.province(1, 0), 47 - i);
        }
        CHECK.due("undo() 21", x.undo(), false);
        x.move(0, 1, 5);
        x.undo();
        CHECK.due("province(1, 0)", x.province(1, 0), 27);
    }

    private static void keptIsUndone() {
        EmptyHat x = Check.crowned("need 1 debt 0 rate 0;stores p 9 yields 0;trick a takes 1 from p look 0;"
            + "trick b takes 1 from p look 0;watch v seat 0 glass 0;watch w seat 0 glass 0;sees 50;loses 3;");
        x.show(2);
        x.show(1);
        CHECK.due("has(8)", x.has(8), 2);
        x.undo();
        CHECK.due("has(8)", x.has(8), 1);
        x.show(0);
        x.show(1);
        int[][] kept = {{0, 1, 47}, {2, 0, 44}};
        for (int k = 0; k < 2; k++) {
            for (int what = 0; what < 3; what++) {
                CHECK.due("kept(" + k + ", " + what + ")", x.kept(k, what), kept[k][what]);
            }
        }
    }

    private static void lastYear() {
        EmptyHat x = Check.crowned("need 1 debt 0 rate 0;stores p 9 yields 0;stores q 9 yields 0;"
            + "watch w seat 0 glass 0;");
        Check.on(x, Check.imageOf(3, 229, 0, 0, 0, 50, 0, 9, 0, 9, 0));
        CHECK.due("YEAR", x.has(3), 997);
        CHECK.due("years(3)", x.years(3), -1);
        CHECK.due("chance(3)", x.chance(3), -1);
        CHECK.due("years(2)", x.years(2), 0);
        CHECK.due("YEAR", x.has(3), 999);
        CHECK.due("years(1)", x.years(1), -1);
        CHECK.due("chance(1)", x.chance(1), -1);
        CHECK.due("show(0)", x.show(0), -1);
        CHECK.due("status(2)", x.status(2), 1);
        CHECK.due("status(3)", x.status(3), 4);
        CHECK.due("sit(0, 1)", x.sit(0, 1), true);
        CHECK.due("move(0, 1, 1)", x.move(0, 1, 1), true);
        x.undo();
        x.undo();
        x.undo();
        CHECK.due("chance(2)", x.chance(2), 0);
        CHECK.due("YEAR", x.has(3), 999);
        x.undo();
        x.years(1);
        CHECK.due("show(0)", x.show(0), 0);
        CHECK.due("YEAR", x.has(3), 999);
    }
}
