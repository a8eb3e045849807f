/** Promises 32 to 34, term IV: images. */
public final class ImageTest {
    private static final Check CHECK = new Check("ImageTest");

    public static void main(String[] args) {
        written();
        latest();
        takenUp();
        limits();
        refusedOnes();
        greatest();
        CHECK.finish();
    }

    private static void bytes(EmptyHat x, int... ahead) {
        int[] due = Check.imageOf(ahead);
        CHECK.due("image()", x.image(), due.length);
        for (int k = 0; k < due.length; k++) {
            CHECK.due("octet(" + k + ")", x.octet(k), due[k]);
        }
        CHECK.due("octet behind", x.octet(due.length), -1);
        CHECK.due("octet(-1)", x.octet(-1), -1);
    }

    private static void written() {
        EmptyHat x = Check.crowned(Check.FAIR);
        bytes(x, 0, 0, 0, 0, 100, 40, 0, 50, 0, 30, 0, 0, 0, 0, 0, 0, 0, 0, 0, 0, 0, 0, 2, 8);
        x.show(3);
        x.sit(1, 9);
        bytes(x, 0, 1, 0, 0, 99, 40, 0, 30, 0, 10, 0, 1, 0, 10, 0, 1, 0, 26, 0, 0, 0, 0, 2, 9);
        x = new EmptyHat();
        CHECK.due("octet(0) ahead of any", x.octet(0), -1);
        CHECK.due("image() without a crown", x.image(), 7);
        CHECK.due("its last byte", x.octet(6), 182);
    }

    private static void latest() {
        EmptyHat x = Check.crowned(Check.FAIR);
        x.image();
        x.sit(0, 3);
        CHECK.due("octet(22) as it was", x.octet(22), 2);
        Check.crown(x, "need 0 debt 7 rate 0;");
        CHECK.due("octet(22) behind a crown", x.octet(22), 2);
        CHECK.due("image()", x.image(), 7);
        CHECK.due("octet(4)", x.octet(4), 7);
        CHECK.due("octet(7)", x.octet(7), -1);
    }

    private static void takenUp() {
        EmptyHat x = Check.crowned(Check.FAIR);
        x.years(5);
        x.image();
        int[] row = new int[25];
        for (int k = 0; k < row.length; k++) {
            row[k] = x.octet(k);
        }
        int[] has = new int[8];
        for (int what = 0; what < has.length; what++) {
            has[what] = x.has(what);
        }
        x.chance(20);
        CHECK.due("something is kept", x.has(8) > 0, true);
        CHECK.due("on()", Check.on(x, row), true);
        for (int what = 0; what < has.length; what++) {
            CHECK.due("has(" + what + ")", x.has(what), has[what]);
        }
        CHECK.due("nothing is kept", x.has(8), 0);
        CHECK.due("nothing can be undone", x.has(10), 0);
        CHECK.due("undo()", x.undo(), false);
        CHECK.due("the tape is gone", x.end(1), false);
        EmptyHat y = Check.crowned(Check.FAIR);
        CHECK.due("on() of another object", Check.on(y, row), true);
        x.years(5);
        y.years(5);
        x.image();
        y.image();
        for (int k = 0; k < 25; k++) {
            CHECK.due("octet(" + k + ")", x.octet(k), y.octet(k));
        }
    }

    private static final String SMALL = "need 1 debt 0 rate 0;stores p 9 yields 0;trick t takes 1 from p look 0;"
        + "watch w seat 0 glass 0;";

    private static void limits() {
        EmptyHat x = Check.crowned(SMALL);
        int[] most = {3, 231, 1, 0x86, 0x9f, 100, 0x27, 0x0f, 0x27, 0x0f, 3, 231, 9};
        CHECK.due("the most", Check.on(x, Check.imageOf(most)), true);
        int[] has = {1, 1, 1, 999, 99999, 100, 1, 9999, 0, 0, 0};
        for (int what = 0; what < has.length; what++) {
            CHECK.due("has(" + what + ")", x.has(what), has[what]);
        }
        CHECK.due("shown", x.trick(0, 3), 9999);
        CHECK.due("known", x.trick(0, 4), 999);
        CHECK.due("seat", x.watcher(0, 0), 9);
        int[] last = {1, 4, 5, 7, 9, 11, 12};
        for (int at : last) {
            int[] more = most.clone();
            more[at]++;
            CHECK.due("one more at " + at, Check.on(x, Check.imageOf(more)), false);
        }
        int[] first = {0, 2, 6, 8, 10};
        for (int at : first) {
            int[] more = new int[13];
            more[at] = 255;
            CHECK.due("far more at " + at, Check.on(x, Check.imageOf(more)), false);
        }
        CHECK.due("status(5)", x.status(5), last.length + first.length);
        CHECK.due("all stays", x.has(4), 99999);
        CHECK.due("the least", Check.on(x, Check.imageOf(new int[13])), true);
        CHECK.due("BELIEF", x.has(5), 0);
        CHECK.due("curtain()", x.curtain(), 0);
    }

    private static void refusedOnes() {
        EmptyHat x = Check.crowned(SMALL);
        x.sit(0, 4);
        int[] good = Check.imageOf(0, 1, 0, 0, 2, 3, 0, 4, 0, 5, 0, 6, 7);
        int[] wrong = good.clone();
        wrong[13] = (wrong[13] + 1) % 251;
        CHECK.due("another last byte", Check.on(x, wrong), false);
        wrong = good.clone();
        wrong[7]++;
        CHECK.due("another byte", Check.on(x, wrong), false);
        CHECK.due("a byte less", Check.on(x, Check.imageOf(0, 1, 0, 0, 2, 3, 0, 4, 0, 5, 0, 6)), false);
        CHECK.due("a byte more", Check.on(x, Check.imageOf(0, 1, 0, 0, 2, 3, 0, 4, 0, 5, 0, 6, 7, 0)), false);
        CHECK.due("none", Check.on(x), false);
        CHECK.due("the tape is gone", x.end(1), false);
        CHECK.due("status(5)", x.status(5), 5);
        CHECK.due("an act can be undone", x.has(10), 1);
        CHECK.due("seat", x.watcher(0, 0), 4);
        CHECK.due("the good one", Check.on(x, good), true);
        CHECK.due("province(0, 0)", x.province(0, 0), 4);
        CHECK.due("trick(0, 3)", x.trick(0, 3), 5);
        CHECK.due("trick(0, 4)", x.trick(0, 4), 6);
        CHECK.due("has(4)", x.has(4), 2);
        CHECK.due("has(5)", x.has(5), 3);
        EmptyHat none = new EmptyHat();
        CHECK.due("without a crown", Check.on(none, Check.imageOf(0, 0, 0, 0, 0, 0)), false);
        CHECK.due("status(5)", none.status(5), 1);
        CHECK.due("the tape is gone", none.end(1), false);
    }

    private static void greatest() {
        StringBuilder b = new StringBuilder("need 0 debt 0 rate 0;");
        for (char c = 'a'; c < 'g'; c++) {
            b.append("stores p").append(c).append(" 9999 yields 9;trick t").append(c).append(" takes 9 from p")
                .append(c).append(" look 1;");
        }
        for (char c = 'a'; c < 'f'; c++) {
            b.append("watch w").append(c).append(" seat 9 glass 9;");
        }
        EmptyHat x = Check.crowned(b.toString());
        CHECK.due("image()", x.image(), 48);
        CHECK.due("octet(46)", x.octet(46), 9);
        CHECK.due("octet(48)", x.octet(48), -1);
        CHECK.due("has(7)", x.has(7), 59994);
        CHECK.due("both(0)", x.both(0), 0);
        CHECK.due("shows(0)", x.shows(0), 64);
        CHECK.due("watch(9)", x.watch(9), 1);
    }
}
