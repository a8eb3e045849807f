/** Term III, sentence by sentence: years ahead, both shows, what is counted, watches and seats. */
final class EdgesAhead {
    private static final String III = "Term III";

    private EdgesAhead() { }

    static void run() {
        yearsAhead();
        both();
        drop();
        counted();
        toCount();
        watches();
        seats();
    }

    private static void yearsAhead() {
        String boys = "need 1 debt 9 rate 1;stores p 50 yields 0;trick t takes 1 from p look 0;boys 100;";
        EmptyHat x = Check.crowned(boys);
        Edge.says(III, "AHEAD are YEARS as they come from now on without DRAWS");
        Edge.due("later(50, 2)", x.later(50, 2), 0);
        Edge.due("later(50, 0)", x.later(50, 0), 9);
        Edge.due("later(50, 3)", x.later(50, 3), 0);
        Edge.due("later(51, 0)", x.later(51, 0), 10);
        Edge.due("has(3)", x.has(3), 0);
        Edge.due("has(7)", x.has(7), 50);
        EmptyHat y = Check.crowned(boys);
        x.chance(3);
        y.chance(3);
        Edge.same("the seed has not moved", Edge.all(x), Edge.all(y));
        anew();

        x = Check.crowned("need 1 debt 0 rate 0;");
        Edge.says(III, "(60 at most, not beyond YEAR 999).");
        Edge.due("later(60, 0)", x.later(60, 0), 60);
        Edge.due("later(61, 0)", x.later(61, 0), -1);
        int[] years = {938, 939, 940, 998, 999};
        for (int year : years) {
            Check.on(x, Check.imageOf(year >> 8, year & 255, 0, 0, 0, 50));
            int most = Math.min(60, 999 - year);
            Edge.due("later(" + most + ", 0) in YEAR " + year, x.later(most, 0), most);
            Edge.due("later(" + (most + 1) + ", 0) in YEAR " + year, x.later(most + 1, 0), -1);
            Edge.due("drop(" + most + ") in YEAR " + year, x.drop(most), 0);
            Edge.due("drop(" + (most + 1) + ") in YEAR " + year, x.drop(most + 1), -1);
        }
    }

    private interface Change {
        void on(EmptyHat x);
    }

    /** What is ahead is worked out anew behind whatever changes. */
    private static void anew() {
        Change[] changes = {x -> Check.crown(x, Check.FAIR), x -> x.show(1), x -> x.sit(0, 0), x -> x.move(0, 1, 5),
            x -> x.years(1), x -> x.chance(2), x -> x.undo(), x -> x.undo(),
            x -> Check.on(x, Check.imageOf(0, 9, 0, 1, 4, 33, 0, 99, 0, 98, 0, 1, 0, 9, 0, 1, 0, 8, 0, 1, 0, 7, 4, 5)),
            x -> Check.crown(x, Check.FAIR.replace("debt 100", "debt 77"))};
        EmptyHat asked = new EmptyHat();
        for (int i = 0; i < changes.length; i++) {
            changes[i].on(asked);
            EmptyHat silent = new EmptyHat();
            for (int k = 0; k <= i; k++) {
                changes[k].on(silent);
            }
            Edge.same("ahead behind change " + i, ahead(asked), ahead(silent));
        }
    }

    private static String ahead(EmptyHat x) {
        StringBuilder b = new StringBuilder();
        for (int what = 0; what < 4; what++) {
            b.append(x.both(what)).append(' ').append(x.later(0, what)).append(' ').append(x.later(2, what)).append(' ');
        }
        return b.append(x.curtain()).append(' ').append(x.drop(4)).toString();
    }

    private static void pair(String text, int first, int second, int debt, int belief) {
        EmptyHat x = Check.crowned(text);
        Edge.due("both(0) of " + text, x.both(0), first);
        Edge.due("both(1) of " + text, x.both(1), second);
        Edge.due("both(2) of " + text, x.both(2), debt);
        Edge.due("both(3) of " + text, x.both(3), belief);
    }

    private static void both() {
        String two = "watch v seat 0 glass 0;watch w seat 0 glass 0;";
        Edge.says(III, "BOTH are SHOWS of this YEAR and the next one by which the debt is least behind them,");
        pair(Check.FAIR, 7, 3, 94, 40);
        // To pay at once is less by the rate, even when BELIEF is lost by it.
        pair("need 0 debt 20 rate 50;stores p 10 yields 0;trick t takes 10 from p look 0;" + two + "sees 50;",
            1, 0, 22, 40);
        // What the second YEAR yields is not there in the first one.
        pair("need 0 debt 9 rate 0;stores p 0 yields 4;trick t takes 9 from p look 0;", 0, 1, 1, 50);
        pair("need 9999 debt 9999 rate 99;", 0, 0, 99092, 50);
        // SIGHT in the next YEAR, of TRICKS shown once more.
        String often = "need 0 debt 90 rate 0;stores p 90 yields 0;trick t takes 10 from p look 0;"
            + "trick u takes 10 from p look 0;" + two;
        pair(often + "sees times*50;", 3, 3, 50, 30);
        pair(often + "sees times/2*50;", 3, 3, 50, 50);
        pair(often + "sees year*50;", 3, 3, 50, 30);
        pair(often + "sees year/2*50;", 3, 3, 50, 50);
        pair(often + "sees (1-times)*50;", 0, 3, 70, 30);
        pair(often + "sees (1-times)*year*50;", 3, 3, 50, 50);

        Edge.says(III, "of like ones BELIEF most,");
        pair("need 0 debt 7 rate 0;stores p 7 yields 0;trick t takes 7 from p look 9;trick u takes 7 from p look 0;"
            + two + "sees look*9;", 0, 2, 0, 50);
        pair("need 0 debt 7 rate 0;stores p 7 yields 0;trick t takes 7 from p look 9;" + two
            + "sees look*9*year;loses 50;", 1, 0, 0, 50);
        // Each is seen through by one SHOW; in YEAR 0 they lose 5 and 10, in YEAR 1 15 and 20.
        pair("need 0 debt 90 rate 0;stores p 90 yields 0;trick t takes 20 from p look 1;"
            + "trick u takes 10 from p look 2;" + two + "sees 50;loses year*10+look*5;", 3, 0, 60, 35);

        Edge.says(III, "of like ones the first pair (the least bits of the first, then of the second SHOW;");
        pair("need 0 debt 0 rate 0;stores p 9 yields 9;trick t takes 9 from p look 0;", 0, 0, 0, 50);
        pair("need 0 debt 5 rate 0;stores p 9 yields 9;trick t takes 9 from p look 0;", 0, 1, 0, 50);
        pair("need 0 debt 8 rate 0;stores p 9 yields 9;trick t takes 4 from p look 0;trick u takes 4 from p look 0;"
            + "trick v takes 4 from p look 0;", 0, 3, 0, 50);
        pair("need 0 debt 9 rate 0;stores p 9 yields 9;trick t takes 4 from p look 0;trick u takes 5 from p look 0;",
            0, 3, 0, 50);
        pair("need 0 debt 12 rate 0;stores p 9 yields 9;trick t takes 4 from p look 0;trick u takes 5 from p look 0;",
            1, 3, 0, 50);

        Edge.says(III, "the second one of TRICKS not SEEN THROUGH then).");
        pair("need 0 debt 90 rate 0;stores p 90 yields 0;trick t takes 20 from p look 9;"
            + "trick u takes 10 from p look 0;" + two + "sees look*9;", 2, 3, 50, 40);
        // Nor is the first one of others: t would pay it all.
        EmptyHat x = Check.crowned("need 0 debt 9 rate 0;stores p 99 yields 0;trick t takes 9 from p look 0;"
            + "trick u takes 1 from p look 0;");
        Check.on(x, Check.imageOf(0, 0, 0, 0, 9, 50, 0, 99, 0, 0, 0, 100, 0, 0, 0, 0));
        Edge.due("both(0), t SEEN THROUGH", x.both(0), 2);
        Edge.due("both(1), t SEEN THROUGH", x.both(1), 2);
        Edge.due("both(2), t SEEN THROUGH", x.both(2), 7);
        // By the rate the first YEAR is the better one for t; then it is gone.
        pair("need 0 debt 100 rate 50;stores p 90 yields 0;trick t takes 20 from p look 9;" + two + "sees look*9;",
            1, 0, 180, 40);
        // The CURTAIN falls by the first SHOW: u can't be shown behind it.
        pair("need 0 debt 100 rate 50;stores p 90 yields 0;trick t takes 20 from p look 9;"
            + "trick u takes 1 from p look 0;" + two + "sees look*9;loses 50;", 3, 0, 177, 0);
    }

    private static void drop() {
        Edge.says(III, "To DROP the CURTAIN is behind so many YEARS AHEAD (0 .. n) behind which 100 times BELIEF less the"
            + " debt is most;");
        // Paid by 10 a YEAR: debt 25, 15, 5, 0, 0, then 1 more each.
        EmptyHat x = Check.crowned("need 1 debt 25 rate 0;stores p 40 yields 0;trick t takes 11 from p look 0;");
        int[] due = {0, 1, 2, 3};
        for (int n = 0; n < due.length; n++) {
            Edge.due("drop(" + n + ")", x.drop(n), due[n]);
        }
        // One of BELIEF is lost where 98 to 101 of debt are paid.
        for (int paid = 98; paid <= 101; paid++) {
            x = Check.crowned("need 1 debt 500 rate 0;stores p 900 yields 0;trick t takes " + (paid + 1)
                + " from p look 0;watch v seat 0 glass 0;watch w seat 0 glass 0;sees 50;loses 1;");
            Edge.due("drop(1), " + paid + " paid", x.drop(1), paid > 100 ? 1 : 0);
        }

        Edge.says(III, "of like ones the least number.");
        x = Check.crowned("need 0 debt 0 rate 0;");
        Edge.due("drop(60) of like ones", x.drop(60), 0);
        x = Check.crowned("need 1 debt 25 rate 0;stores p 40 yields 0;trick t takes 11 from p look 0;");
        Edge.due("drop(4): debt 0 behind three and four", x.drop(4), 3);
        Edge.due("drop(60)", x.drop(60), 3);
    }

    private static void counted() {
        EmptyHat x = Check.crowned("need 1 debt 0 rate 0;stores p 9995 yields 9;stores q 5 yields 0;"
            + "trick a takes 2 from p look 0;trick b takes 7 from q look 0;trick c takes 9 from q look 0;");
        Edge.says(III, "COUNTED are rows of PROVINCE, its store behind this YEAR: SHOWS by which, given in this YEAR,"
            + " all is so.");
        // p is 9999 with its yields, 9997 behind a; q is 5, or 0 behind b or c.
        int[][] rows = {{0, 39, 15}, {0, 39, 13}, {0, 39, 14}, {0, 39, 11}, {1, 0, 5}, {1, 0, 0}, {1, 0, 1},
            {0, 39, 13, 1, 0, 0}, {0, 39, 13, 0, 39, 15}, {1, 0, 5, 1, 0, 5}};
        int[] due = {4, 4, 0, 0, 2, 6, 0, 3, 0, 2};
        for (int i = 0; i < rows.length; i++) {
            Edge.due("count() of rows " + i, Check.count(x, rows[i]), rows[i].length / 3);
            Edge.due("shows(0) of rows " + i, x.shows(0), due[i]);
        }
        Check.count(x, 0, 39, 13);
        x.show(1);
        Edge.due("shows(0) in the next YEAR, p 9999 again", x.shows(0), 4);
        x.show(0);
        Check.count(x, 1, 0, 5);
        x.show(2);
        Edge.due("shows(0) when q is 0", x.shows(0), 0);
    }

    private static void toCount() {
        Edge.says(III, "To COUNT is the PROVINCE by whose store then, whatever it is, the most SHOWS left are fewest;");
        // p is 9, 6, 6, 3 by two SHOWS each, q is 9 or 8 by four each.
        EmptyHat x = Check.crowned("need 0 debt 0 rate 0;stores q 9 yields 0;stores p 9 yields 0;"
            + "trick a takes 3 from p look 0;trick b takes 3 from p look 0;trick c takes 1 from q look 0;");
        Edge.due("where(0): q", x.where(0), 0);
        Edge.due("where(1): p is 6 by four SHOWS, too", x.where(1), 4);
        x = Check.crowned("need 0 debt 0 rate 0;stores q 9 yields 0;stores p 9 yields 0;"
            + "trick a takes 3 from p look 0;trick b takes 4 from p look 0;trick c takes 1 from q look 0;");
        Edge.due("where(0): p", x.where(0), 1);
        Edge.due("where(1)", x.where(1), 2);
        Check.count(x, 1, 0, 5);
        Edge.due("where(0) when p is counted", x.where(0), 0);
        Edge.due("where(1) when p is counted", x.where(1), 1);

        Edge.says(III, "of like ones the first.");
        x = Check.crowned("need 0 debt 0 rate 0;stores o 9 yields 0;stores p 9 yields 0;stores q 9 yields 0;"
            + "trick a takes 1 from p look 0;trick b takes 1 from q look 0;");
        Edge.due("where(0)", x.where(0), 1);
        Edge.due("where(1)", x.where(1), 2);
        x = Check.crowned("need 0 debt 0 rate 0;stores o 9 yields 0;stores p 9 yields 0;");
        Edge.due("where(0) without TRICKS", x.where(0), 0);
        EmptyHat six = Check.crowned("need 0 debt 0 rate 0;stores a 1 yields 0;stores b 1 yields 0;stores c 1 yields 0;"
            + "stores d 1 yields 0;stores e 1 yields 0;stores f 1 yields 0;trick t takes 1 from f look 0;");
        Edge.due("where(0) of six: the last", six.where(0), 5);
        Edge.due("where(1) of six", six.where(1), 1);
        Edge.due("where(1) without TRICKS", x.where(1), 1);
    }

    /** A watcher sees 10 of what looks like his seat, 10 less by each seat beside, and 5 more by each glass. */
    private static final String NEAR = "need 0 debt 0 rate 0;stores p 9 yields 0;trick t takes 1 from p look 1;"
        + "trick u takes 1 from p look 2;sees 10-10*max(look-seat,seat-look)+glass*5;";

    private static void watches() {
        EmptyHat x = Check.crowned(NEAR + "watch a seat 1 glass 0;watch b seat 2 glass 0;");
        Edge.says(III, "A WATCH is a set of WATCHERS by whom each TRICK is seen, by one of them, by as much SIGHT as a"
            + " number, at least:");
        Edge.due("watch(9)", x.watch(9), 3);
        Edge.due("watch(10)", x.watch(10), 3);
        Edge.due("watch(11)", x.watch(11), -1);
        // Each sees 5 of t; together they see 10, and that is not by one of them.
        x = Check.crowned("need 0 debt 0 rate 0;stores p 9 yields 0;trick t takes 1 from p look 1;sees 5;"
            + "watch a seat 1 glass 0;watch b seat 1 glass 0;");
        Edge.due("watch(5)", x.watch(5), 1);
        Edge.due("watch(6)", x.watch(6), -1);
        x = Check.crowned("need 0 debt 0 rate 0;watch a seat 0 glass 0;");
        Edge.due("each of no TRICKS", x.watch(99), 0);
        x = Check.crowned(NEAR);
        Edge.due("by none", x.watch(0), -1);
        x = Check.crowned("need 0 debt 0 rate 0;stores p 9 yields 0;trick t takes 1 from p look 1;sees glass*11;"
            + "watch a seat 0 glass 1;watch b seat 0 glass 2;watch c seat 0 glass 3;watch d seat 0 glass 4;"
            + "watch e seat 0 glass 9;");
        Edge.due("watch(45) of five: the last", x.watch(45), 16);
        Edge.due("watch(99) of five: the last", x.watch(99), 16);
        Edge.due("watch(44) of five", x.watch(44), 8);

        x = Check.crowned(NEAR + "watch a seat 1 glass 0;watch b seat 2 glass 0;watch c seat 1 glass 2;"
            + "watch d seat 2 glass 2;");
        Edge.says(III, "the fewest, of like ones the least bits.");
        Edge.due("watch(10): c alone, or d alone", x.watch(10), 4);
        Edge.due("watch(20): c and d", x.watch(20), 12);
        Edge.due("watch(0): any", x.watch(0), 1);
    }

    private static void seats() {
        EmptyHat x = Check.crowned(NEAR + "trick v takes 1 from p look 2;watch a seat 7 glass 0;");
        Edge.says(III, "A SEAT is the one (0 .. 9) for a WATCHER by which his SIGHT of all TRICKS together is most;");
        Edge.due("seat(0): 10 from seat 1, 20 from seat 2", x.seat(0), 2);
        Edge.due("watcher(0, 0)", x.watcher(0, 0), 7);
        x = Check.crowned("need 0 debt 0 rate 0;stores p 9 yields 0;trick t takes 1 from p look 1;sees seat*3;"
            + "watch a seat 0 glass 0;");
        Edge.due("seat(0): the last", x.seat(0), 9);
        x = Check.crowned("need 0 debt 0 rate 0;stores p 9 yields 0;trick t takes 1 from p look 1;sees 9-seat;"
            + "watch a seat 9 glass 0;");
        Edge.due("seat(0): the first", x.seat(0), 0);

        Edge.says(III, "of like ones the least.");
        x = Check.crowned(NEAR + "watch a seat 7 glass 0;");
        Edge.due("seat(0): 10 from seats 1, 2", x.seat(0), 1);
        x = Check.crowned("need 0 debt 0 rate 0;stores p 9 yields 0;trick t takes 1 from p look 1;sees seat*30;"
            + "watch a seat 9 glass 0;");
        Edge.due("seat(0): 99 from seat 4 on", x.seat(0), 4);
        x = Check.crowned("need 0 debt 0 rate 0;watch a seat 5 glass 0;sees seat;");
        Edge.due("seat(0) without TRICKS", x.seat(0), 0);
    }
}
