import java.nio.charset.StandardCharsets;

/** What the tests share: answers compared, texts put on the tape. */
final class Check {
    private final String test;
    private int calls = 0;
    private int wrong = 0;

    Check(String test) {
        this.test = test;
    }

    void due(String call, long got, long want) {
        calls++;
        if (got != want) {
            wrong++;
            System.out.println(test + ": " + call + " answered " + got + ", due is " + want);
        }
    }

    void due(String call, boolean got, boolean want) {
        due(call, got ? 1 : 0, want ? 1 : 0);
    }

    void finish() {
        System.out.println(test + ": " + calls + " answers, " + wrong + " wrong");
        if (wrong != 0 || calls == 0) {
            System.exit(1);
        }
    }

    /** Puts bytes on an empty tape. */
    static void tape(EmptyHat x, byte[] bytes) {
        x.end(0);
        for (int at = 0; at < bytes.length; at += 20) {
            int[] five = new int[5];
            for (int i = 0; i < 20; i++) {
                int b = at + i < bytes.length ? bytes[at + i] & 255 : ' ';
                five[i / 4] = five[i / 4] << 8 | b;
            }
            x.feed(five[0], five[1], five[2], five[3], five[4]);
        }
        x.end(bytes.length);
    }

    static void tape(EmptyHat x, String text) {
        tape(x, text.getBytes(StandardCharsets.ISO_8859_1));
    }

    static void tape(EmptyHat x, int... bytes) {
        byte[] row = new byte[bytes.length];
        for (int i = 0; i < row.length; i++) {
            row[i] = (byte) bytes[i];
        }
        tape(x, row);
    }

    static int crown(EmptyHat x, String text) {
        tape(x, text);
        return x.crown();
    }

    static long ask(EmptyHat x, String text) {
        tape(x, text);
        return x.ask();
    }

    static int count(EmptyHat x, int... bytes) {
        tape(x, bytes);
        return x.count();
    }

    static EmptyHat crowned(String text) {
        EmptyHat x = new EmptyHat();
        if (crown(x, text) < 0) {
            throw new IllegalStateException("fault " + x.fault(0) + " at " + x.fault(1) + " of " + text);
        }
        return x;
    }

    /** crown() has this FAULT at this place, and is refused. */
    void crownFault(String text, int fault, int place) {
        EmptyHat x = new EmptyHat();
        due("crown() of " + text, crown(x, text), -1);
        due("fault(0) of " + text, x.fault(0), fault);
        due("fault(1) of " + text, x.fault(1), place);
        due("status(1) of " + text, x.status(1), 1);
    }

    /** ask() has this FAULT at this place. */
    void askFault(EmptyHat x, String text, int fault, int place) {
        due("ask() of " + text, ask(x, text), EmptyHat.NOTHING);
        due("fault(0) of " + text, x.fault(0), fault);
        due("fault(1) of " + text, x.fault(1), place);
    }
}
