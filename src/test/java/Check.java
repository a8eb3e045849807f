import java.nio.charset.StandardCharsets;
import java.util.Arrays;

/** What the tests share: answers compared, texts put on the tape. */
final class Check {
    /** A crown with two provinces, three tricks and two watchers, at whose answers the tests look. */
    static final String FAIR = "need 60 debt 100 rate 10; stores west 50 yields 20; stores east 30 yields 10;"
        + " trick dove takes 40 from west look 3; trick egg takes 30 from east look 7;"
        + " trick silk takes 25 from west look 1; watch abe seat 2 glass 4; watch bea seat 8 glass 1;"
        + " sees look*glass+times*10-seat; loses takes/5+times; belief 40; boys 50;";

    private final String test;
    private int calls = 0;
    private int wrong = 0;

    Check(String test) {
        this.test = test;
    }

    void due(String call, long got, long want) {
        calls++;
        if (got != want) {
            wrong++;
            System.out.println(test + ": " + call + " answered " + got + ", due is " + want);
        }
    }

    void due(String call, boolean got, boolean want) {
        due(call, got ? 1 : 0, want ? 1 : 0);
    }

    void finish() {
        System.out.println(test + ": " + calls + " answers, " + wrong + " wrong");
        if (wrong != 0 || calls == 0) {
            System.exit(1);
        }
    }

    /** Puts bytes on an empty tape. */
    static void tape(EmptyHat x, byte[] bytes) {
        x.end(0);
        for (int at = 0; at < bytes.length; at += 20) {
            int[] five = new int[5];
            for (int i = 0; i < 20; i++) {
                int b = at + i < bytes.length ? bytes[at + i] & 255 : ' ';
                five[i / 4] = five[i / 4] << 8 | b;
            }
            x.feed(five[0], five[1], five[2], five[3], five[4]);
        }
        x.end(bytes.length);
    }

    static void tape(EmptyHat x, String text) {
        tape(x, text.getBytes(StandardCharsets.ISO_8859_1));
    }

    static void tape(EmptyHat x, int... bytes) {
        byte[] row = new byte[bytes.length];
        for (int i = 0; i < row.length; i++) {
            row[i] = (byte) bytes[i];
        }
        tape(x, row);
    }

    static int crown(EmptyHat x, String text) {
        tape(x, text);
        return x.crown();
    }

    static long ask(EmptyHat x, String text) {
        tape(x, text);
        return x.ask();
    }

    static int count(EmptyHat x, int... bytes) {
        tape(x, bytes);
        return x.count();
    }

    static EmptyHat crowned(String text) {
        EmptyHat x = new EmptyHat();
        if (crown(x, text) < 0) {
            throw new IllegalStateException("fault " + x.fault(0) + " at " + x.fault(1) + " of " + text);
        }
        return x;
    }

    /** crown() has this FAULT where the mark ^ stands (it is not part of the text), and is refused. */
    void crownFault(int fault, String marked) {
        String text = marked.replace("^", "");
        EmptyHat x = new EmptyHat();
        due("crown() of " + text, crown(x, text), -1);
        due("fault(0) of " + marked, x.fault(0), fault);
        due("fault(1) of " + marked, x.fault(1), marked.indexOf('^'));
        due("status(1) of " + marked, x.status(1), 1);
        due("has(0) of " + marked, x.has(0), 0);
    }

    /** ask() has this FAULT where the mark ^ stands. */
    void askFault(EmptyHat x, int fault, String marked) {
        String text = marked.replace("^", "");
        due("ask() of " + text, ask(x, text), EmptyHat.NOTHING);
        due("fault(0) of " + marked, x.fault(0), fault);
        due("fault(1) of " + marked, x.fault(1), marked.indexOf('^'));
    }

    /** The bytes of an image, its last byte put behind them. */
    static int[] imageOf(int... ahead) {
        int[] all = Arrays.copyOf(ahead, ahead.length + 1);
        int c = 97;
        for (int b : ahead) {
            c = (3 * c + b) % 251;
        }
        all[ahead.length] = c;
        return all;
    }

    static boolean on(EmptyHat x, int... bytes) {
        tape(x, bytes);
        return x.on();
    }
}
