/** Promises 1, 2, 3, 5 and 35: a new object, the tape, what was refused. */
public final class TapeTest {
    private static final Check CHECK = new Check("TapeTest");

    public static void main(String[] args) {
        newObject();
        feedAndEnd();
        bytesInOrder();
        refusals();
        CHECK.finish();
    }

    private static void newObject() {
        EmptyHat x = new EmptyHat();
        for (int what = 0; what <= 10; what++) {
            CHECK.due("has(" + what + ")", x.has(what), 0);
        }
        for (int what = 0; what <= 5; what++) {
            CHECK.due("status(" + what + ")", x.status(what), 0);
        }
        CHECK.due("fault(0)", x.fault(0), 0);
        CHECK.due("fault(1)", x.fault(1), -1);
        CHECK.due("fault(2)", x.fault(2), -1);
        CHECK.due("fault(-1)", x.fault(-1), -1);
        CHECK.due("octet(0)", x.octet(0), -1);
        CHECK.due("best(0)", x.best(0), -1);
        CHECK.due("appears(0)", x.appears(0), -1);
        CHECK.due("watch(0)", x.watch(0), -1);
        CHECK.due("NONE", EmptyHat.NONE, -1);
        CHECK.due("NOTHING", EmptyHat.NOTHING, -1000000000000000L);
    }

    private static void feedAndEnd() {
        EmptyHat x = new EmptyHat();
        CHECK.due("end(0)", x.end(0), true);
        CHECK.due("end(1)", x.end(1), false);
        CHECK.due("end(-1)", x.end(-1), false);
        for (int i = 1; i <= 80; i++) {
            CHECK.due("feed " + i, x.feed(i, 0, -1, 0, i), 20 * i);
        }
        CHECK.due("feed 81", x.feed(0, 0, 0, 0, 0), -1);
        CHECK.due("end(1601)", x.end(1601), false);
        CHECK.due("end(1600)", x.end(1600), true);
        CHECK.due("end(1581)", x.end(1581), true);
        CHECK.due("feed beyond", x.feed(0, 0, 0, 0, 0), -1);
        CHECK.due("end(1582)", x.end(1582), false);
        CHECK.due("end(1580)", x.end(1580), true);
        CHECK.due("feed to the brim", x.feed(0, 0, 0, 0, 0), 1600);
        CHECK.due("end(MAX)", x.end(Integer.MAX_VALUE), false);
        CHECK.due("end(MIN)", x.end(Integer.MIN_VALUE), false);
        CHECK.due("status(0)", x.status(0), 8);
    }

    /** Of each number the highest byte is first, and bytes above 127 are bytes. */
    private static void bytesInOrder() {
        EmptyHat x = Check.crowned("need 0 debt 0 rate 0;stores a 0 yields 0;");
        x.feed(0x00000001, 0, 0, 0, 0);
        x.end(3);
        CHECK.due("count of 0 0 0", x.count(), 1);
        CHECK.due("shows(0)", x.shows(0), 1);
        CHECK.due("the tape is gone", x.end(1), false);
        x.feed(0x00000100, 0, 0, 0, 0);
        x.end(3);
        CHECK.due("count of 0 0 1", x.count(), 1);
        CHECK.due("shows(0) of 0 0 1", x.shows(0), 0);
        x.feed(0x0000ff00, 0, 0, 0, 0);
        x.end(3);
        CHECK.due("count of 0 0 255", x.count(), 1);
        CHECK.due("shows(0) of 0 0 255", x.shows(0), 0);
        // The second feed comes behind what end() left.
        x.feed(0x6f667465, 0x6e206120, 0, 0, 0);
        x.end(7);
        CHECK.due("feed behind 7", x.feed(0x6c6c2020, 0, 0, 0, 0), 27);
        x.end(11);
        CHECK.due("ask() of often all", x.ask(), 0);
        CHECK.due("fault(0)", x.fault(0), 0);
    }

    private static void refusals() {
        EmptyHat x = Check.crowned(Check.FAIR);
        x.end(7);
        CHECK.due("status(0)", x.status(0), 1);
        Check.crown(x, "x");
        Check.count(x, 9, 9);
        CHECK.due("status(1)", x.status(1), 2);
        x.show(8);
        x.sit(0, 2);
        x.move(0, 0, 1);
        CHECK.due("status(2)", x.status(2), 3);
        x.years(0);
        x.chance(101);
        CHECK.due("status(3)", x.status(3), 2);
        x.undo();
        CHECK.due("status(4)", x.status(4), 1);
        x.seed(-1);
        Check.on(x, 1, 2, 3);
        CHECK.due("status(5)", x.status(5), 2);
        CHECK.due("status(6)", x.status(6), -1);
        CHECK.due("status(-1)", x.status(-1), -1);
        Check.ask(x, "x");
        x.later(61, 0);
        CHECK.due("an answer of NONE alone is not refused", x.status(1) + x.status(3), 4);
    }
}
