/** Promises 19 to 23, term III: what is counted, watches, seats. */
public final class CountTest {
    private static final Check CHECK = new Check("CountTest");

    public static void main(String[] args) {
        counted();
        refusedRows();
        showsOfThisYear();
        provinceToCount();
        stays();
        watches();
        seats();
        CHECK.finish();
    }

    private static void fits(EmptyHat x, int howMany, int inAll, int inSome) {
        CHECK.due("shows(0)", x.shows(0), howMany);
        CHECK.due("shows(1)", x.shows(1), inAll);
        CHECK.due("shows(2)", x.shows(2), inSome);
        CHECK.due("shows(3)", x.shows(3), -1);
        CHECK.due("shows(-1)", x.shows(-1), -1);
    }

    private static void counted() {
        EmptyHat x = Check.crowned(Check.FAIR);
        fits(x, 8, 0, 7);
        // West has 70 in this YEAR, east 40.
        CHECK.due("west 5", Check.count(x, 0, 0, 5), 1);
        fits(x, 2, 5, 7);
        CHECK.due("west 30, east 10", Check.count(x, 0, 0, 30, 1, 0, 10), 2);
        fits(x, 1, 3, 3);
        CHECK.due("has(9)", x.has(9), 2);
        CHECK.due("west 70", Check.count(x, 0, 0, 70), 1);
        fits(x, 2, 0, 2);
        CHECK.due("west 45 twice", Check.count(x, 0, 0, 45, 0, 0, 45), 2);
        fits(x, 2, 4, 6);
        CHECK.due("west 45 and 70", Check.count(x, 0, 0, 45, 0, 0, 70), 2);
        fits(x, 0, 0, 0);
        CHECK.due("west 326", Check.count(x, 0, 1, 70), 1);
        fits(x, 0, 0, 0);
        CHECK.due("west 65535", Check.count(x, 0, 255, 255), 1);
        fits(x, 0, 0, 0);
        EmptyHat y = Check.crowned(Check.FAIR);
        fits(y, 8, 0, 7);
        Check.count(y, 0, 0, 5, 1, 0, 10);
        fits(y, 1, 7, 7);
        CHECK.due("16 rows", Check.count(x, new int[48]), 16);
        CHECK.due("has(9)", x.has(9), 16);
        fits(x, 0, 0, 0);
    }

    private static void refusedRows() {
        EmptyHat x = Check.crowned(Check.FAIR);
        CHECK.due("west 5", Check.count(x, 0, 0, 5), 1);
        CHECK.due("no row", Check.count(x), -1);
        CHECK.due("two bytes", Check.count(x, 0, 0), -1);
        CHECK.due("four bytes", Check.count(x, 0, 0, 5, 1), -1);
        CHECK.due("17 rows", Check.count(x, new int[51]), -1);
        CHECK.due("no such province", Check.count(x, 2, 0, 0), -1);
        CHECK.due("no such province behind", Check.count(x, 1, 0, 10, 255, 0, 0), -1);
        CHECK.due("status(1)", x.status(1), 6);
        CHECK.due("the tape is gone", x.end(1), false);
        CHECK.due("has(9)", x.has(9), 1);
        fits(x, 2, 5, 7);
        EmptyHat none = new EmptyHat();
        CHECK.due("without a crown", Check.count(none, 0, 0, 0), -1);
        CHECK.due("the tape is gone without a crown", none.end(1), false);
        CHECK.due("shows(0) without a crown", none.shows(0), -1);
        CHECK.due("where(0) without a crown", none.where(0), -1);
    }

    private static void showsOfThisYear() {
        EmptyHat x = Check.crowned("need 1 debt 0 rate 0;stores p 9998 yields 9;trick a takes 2 from p look 9;"
            + "trick b takes 2 from p look 0;watch v seat 0 glass 0;watch w seat 0 glass 0;sees look*9;loses 50;");
        CHECK.due("9999 at most, less 2", Check.count(x, 0, 9997 >> 8, 9997 & 255), 1);
        fits(x, 2, 0, 3);
        x.show(2);
        Check.count(x, 0, 9999 >> 8, 9999 & 255);
        fits(x, 1, 0, 0);
        x.show(1);
        // The curtain is down now.
        fits(x, 1, 0, 0);
        CHECK.due("where(0)", x.where(0), 0);
        CHECK.due("where(1)", x.where(1), 1);
        x = Check.crowned("need 1 debt 0 rate 0;stores p 9 yields 0;");
        for (int year = 998; year <= 999; year++) {
            Check.on(x, Check.imageOf(3, year - 768, 0, 0, 0, 50, 0, 9));
            CHECK.due("shows(0) in YEAR " + year, x.shows(0), year == 998 ? 1 : -1);
            CHECK.due("where(0) in YEAR " + year, x.where(0), year == 998 ? 0 : -1);
        }
    }

    private static void provinceToCount() {
        EmptyHat x = Check.crowned(Check.FAIR);
        CHECK.due("where(0)", x.where(0), 0);
        CHECK.due("where(1)", x.where(1), 2);
        CHECK.due("where(2)", x.where(2), -1);
        CHECK.due("where(-1)", x.where(-1), -1);
        Check.count(x, 0, 0, 5);
        CHECK.due("where(0) by west", x.where(0), 1);
        CHECK.due("where(1) by west", x.where(1), 1);
        Check.count(x, 0, 0, 6);
        CHECK.due("where(0) without a show", x.where(0), -1);
        CHECK.due("where(1) without a show", x.where(1), -1);
        // Of like ones the first; a province that no trick takes from tells nothing.
        x = Check.crowned("need 0 debt 0 rate 0;stores o 9 yields 0;stores p 9 yields 0;stores q 9 yields 0;"
            + "trick a takes 1 from p look 0;trick b takes 1 from q look 0;");
        CHECK.due("where(0) of like ones", x.where(0), 1);
        CHECK.due("where(1) of like ones", x.where(1), 2);
        // Stores 9, 6, 6, 3: the most left are two.
        x = Check.crowned("need 0 debt 0 rate 0;stores p 9 yields 0;trick a takes 3 from p look 0;"
            + "trick b takes 3 from p look 0;");
        CHECK.due("where(1) of two alike", x.where(1), 2);
        StringBuilder b = new StringBuilder("need 0 debt 0 rate 0;stores p 0 yields 0;");
        for (char c = 'a'; c < 'g'; c++) {
            b.append("trick t").append(c).append(" takes 1 from p look 0;");
        }
        x = Check.crowned(b.toString());
        CHECK.due("where(0) of nothing", x.where(0), 0);
        CHECK.due("where(1) of nothing", x.where(1), 64);
        x = Check.crowned("need 0 debt 0 rate 0;");
        CHECK.due("where(0) without provinces", x.where(0), -1);
        CHECK.due("shows(0) without provinces", x.shows(0), 1);
    }

    private static void stays() {
        EmptyHat x = Check.crowned(Check.FAIR);
        Check.count(x, 0, 0, 5);
        x.sit(0, 0);
        x.undo();
        CHECK.due("has(9) behind undo", x.has(9), 1);
        x.image();
        int[] bytes = new int[25];
        for (int k = 0; k < 25; k++) {
            bytes[k] = x.octet(k);
        }
        CHECK.due("on()", Check.on(x, bytes), true);
        CHECK.due("has(9) behind on", x.has(9), 1);
        x.show(1);
        // West has 50 in the next YEAR: 5 of it by no show.
        CHECK.due("shows(0) in the next YEAR", x.shows(0), 0);
        Check.crown(x, Check.FAIR);
        CHECK.due("has(9) behind crown", x.has(9), 0);
        fits(x, 8, 0, 7);
    }

    /** A watcher sees 10 of what looks like his seat, nothing of other tricks, and 5 more by each glass. */
    private static final String NEAR = "need 0 debt 0 rate 0;stores p 9 yields 0;trick t takes 1 from p look 1;"
        + "trick u takes 1 from p look 2;sees 10-10*max(look-seat,seat-look)+glass*5;";

    private static void watches() {
        EmptyHat x = Check.crowned(NEAR + "watch a seat 1 glass 0;watch b seat 2 glass 0;");
        CHECK.due("watch(10)", x.watch(10), 3);
        CHECK.due("watch(1)", x.watch(1), 3);
        CHECK.due("watch(0)", x.watch(0), 1);
        CHECK.due("watch(11)", x.watch(11), -1);
        CHECK.due("watch(-1)", x.watch(-1), -1);
        CHECK.due("watch(100)", x.watch(100), -1);
        x.sit(1, 1);
        CHECK.due("watch(10) from one seat", x.watch(10), -1);
        x = Check.crowned(NEAR + "watch a seat 1 glass 0;watch b seat 2 glass 0;watch c seat 1 glass 2;"
            + "watch d seat 2 glass 2;");
        CHECK.due("watch(10): fewest, then least bits", x.watch(10), 4);
        CHECK.due("watch(20)", x.watch(20), 12);
        CHECK.due("watch(21)", x.watch(21), -1);
        x = Check.crowned(NEAR);
        CHECK.due("no watchers", x.watch(0), -1);
        x = Check.crowned("need 0 debt 0 rate 0;watch a seat 0 glass 0;");
        CHECK.due("no tricks", x.watch(99), 0);
        x = Check.crowned(NEAR.replace("sees 10", "sees 9999*9+10") + "watch a seat 1 glass 0;");
        CHECK.due("watch(99)", x.watch(99), 1);
    }

    private static void seats() {
        EmptyHat x = Check.crowned(NEAR + "watch a seat 7 glass 0;watch b seat 2 glass 9;");
        CHECK.due("seat(0)", x.seat(0), 1);
        CHECK.due("seat(1): both 50 by seat 1, 2", x.seat(1), 1);
        CHECK.due("seat(2)", x.seat(2), -1);
        CHECK.due("seat(-1)", x.seat(-1), -1);
        CHECK.due("he stays", x.watcher(0, 0), 7);
        x = Check.crowned(NEAR + "trick v takes 1 from p look 2;watch a seat 7 glass 0;");
        CHECK.due("seat(0) of three", x.seat(0), 2);
        x = Check.crowned("need 0 debt 0 rate 0;stores p 9 yields 0;trick t takes 1 from p look 1;"
            + "watch a seat 0 glass 0;sees seat*3;");
        CHECK.due("seat(0) at the end", x.seat(0), 9);
        x = Check.crowned("need 0 debt 0 rate 0;watch a seat 5 glass 0;sees seat;");
        CHECK.due("seat(0) without tricks", x.seat(0), 0);
        CHECK.due("seat(0) without a crown", new EmptyHat().seat(0), -1);
    }
}
