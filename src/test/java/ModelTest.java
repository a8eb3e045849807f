import java.nio.charset.StandardCharsets;
import java.util.ArrayList;
import java.util.Arrays;
import java.util.Collections;
import java.util.List;
import java.util.Random;

/** All promises: random runs of calls, each answer held against the model's. */
public final class ModelTest {
    private static final Check CHECK = new Check("ModelTest");
    private static final String[] NAMES = {"a", "bb", "west", "east", "dove", "egg", "silk", "abe", "bea", "ring",
        "cup", "zzzzzz", "first", "most", "n", "m", "coin", "hat", "rod"};

    private final Random random;
    private final EmptyHat hat = new EmptyHat();
    private final Model model = new Model();
    private final String run;

    private ModelTest(int seed) {
        random = new Random(seed);
        run = "run " + seed + ": ";
    }

    public static void main(String[] args) {
        int runs = args.length > 0 ? Integer.parseInt(args[0]) : 500;
        int from = args.length > 1 ? Integer.parseInt(args[1]) : 0;
        for (int seed = from; seed < from + runs; seed++) {
            new ModelTest(seed).play();
        }
        CHECK.finish();
    }

    private int any(int bound) {
        return random.nextInt(bound);
    }

    private boolean oneIn(int n) {
        return any(n) == 0;
    }

    private String pick(String... row) {
        return row[any(row.length)];
    }

    private int number(int most) {
        return oneIn(5) ? 0 : oneIn(5) ? most : any(most + 1);
    }

    private String sum(String[] parts, int depth) {
        StringBuilder b = new StringBuilder(part(parts, depth));
        for (int i = any(4); i > 0; i--) {
            b.append(pick("+", "-", "*", "/", " + ", "- ", " *", "/")).append(part(parts, depth));
        }
        return b.toString();
    }

    private String part(String[] parts, int depth) {
        switch (depth <= 0 ? any(5) : any(9)) {
            case 0: case 1: return "" + number(oneIn(6) ? 9999 : 20);
            case 5: return "(" + sum(parts, depth - 1) + ")";
            case 6: return "min(" + sum(parts, depth - 1) + "," + sum(parts, depth - 1) + ")";
            case 7: return "max (" + sum(parts, depth - 1) + " , " + sum(parts, depth - 1) + " )";
            default:
                String word = pick(parts);
                return word.equals("seen") ? "seen " + part(parts, depth - 1) : word;
        }
    }

    private String test(String[] parts, int depth) {
        StringBuilder b = new StringBuilder(fact(parts, depth));
        for (int i = any(3); i > 0; i--) {
            b.append(pick(" or ", " and ")).append(fact(parts, depth));
        }
        return b.toString();
    }

    private String fact(String[] parts, int depth) {
        switch (depth <= 0 ? 0 : any(6)) {
            case 1: return "not " + fact(parts, depth - 1);
            case 2: return "[" + test(parts, depth - 1) + "]";
            case 3: return "all";
            default: return sum(parts, depth - 1) + pick("<", ">", "=") + sum(parts, depth - 1);
        }
    }

    private String question() {
        String[] parts = {"number", "takes", "look", "times", "known", "sight", "left", "year", "seen"};
        String text = oneIn(2) ? pick("first", "last", "often") + " " + test(parts, 1 + any(8))
            : pick("total", "most", "least") + " " + sum(parts, 1 + any(8));
        return oneIn(4) ? spoiled(text) : text;
    }

    private String crown() {
        List<String> names = new ArrayList<>(List.of(NAMES));
        Collections.shuffle(names, random);
        int next = 0;
        StringBuilder b = new StringBuilder("need " + number(300) + " debt " + number(oneIn(3) ? 9999 : 500)
            + " rate " + number(oneIn(3) ? 99 : 10) + ";");
        int provinces = any(7);
        for (int i = 0; i < provinces; i++) {
            b.append("stores " + names.get(i) + " " + number(oneIn(3) ? 9999 : 300) + " yields "
                + number(oneIn(3) ? 999 : 60) + ";");
        }
        next = provinces;
        for (int i = provinces == 0 ? 0 : any(7); i > 0; i--) {
            b.append(" trick " + names.get(next++) + " takes " + (1 + number(oneIn(4) ? 998 : 150)) + " from "
                + names.get(any(provinces)) + " look " + number(9) + " ;\n");
        }
        for (int i = any(6); i > 0; i--) {
            b.append("watch " + names.get(next++) + " seat " + number(9) + " glass " + number(9) + ";");
        }
        if (oneIn(2)) {
            b.append("sees " + sum(new String[] {"look", "times", "year", "seat", "glass"}, 1 + any(3)) + ";");
        }
        if (oneIn(2)) {
            b.append("loses " + sum(new String[] {"look", "times", "year", "takes", "belief"}, 1 + any(3)) + ";");
        }
        for (int i = any(3); i > 0; i--) {
            b.append(oneIn(2) ? "belief " + (1 + number(99)) + ";" : "boys " + number(100) + ";");
        }
        String text = b.toString();
        if (oneIn(30)) {
            text += "boys 5;".repeat(any(70));
        }
        return oneIn(3) ? spoiled(text) : text;
    }

    /** A text with a small change somewhere, or several. */
    private String spoiled(String text) {
        StringBuilder b = new StringBuilder(text);
        for (int i = 1 + any(2); i > 0 && b.length() > 0; i--) {
            int at = any(b.length());
            switch (any(6)) {
                case 0: b.deleteCharAt(at); break;
                case 1: b.insert(at, pick("(", ")", ";", "7", "x", " ", "\n", "min", "not ", "[", "]", "\u00e9", "A"));
                    break;
                case 2: b.setLength(at); break;
                case 3: b.setCharAt(at, (char) any(256)); break;
                case 4: b.insert(at, pick("((((((", "seen seen ", "not not not ", "99999", "abcdefgh", "sees 1;",
                    "stores q 1 yields 1;", "need 1", "trick west takes 1 from a look 1;")); break;
                default:
                    int to = at + any(b.length() - at + 1);
                    b.insert(any(b.length()), b.substring(at, Math.min(to, at + 60)));
            }
        }
        return b.toString();
    }

    private void tape(byte[] bytes) {
        Check.tape(hat, bytes);
        model.tape = bytes;
    }

    private void tape(String text) {
        byte[] bytes = text.getBytes(StandardCharsets.ISO_8859_1);
        tape(bytes.length > 1600 ? Arrays.copyOf(bytes, 1600) : bytes);
    }

    private void same(String call, long got, long want) {
        CHECK.due(run + call, got, want);
    }

    private void same(String call, boolean got, long want) {
        CHECK.due(run + call, got ? 1 : 0, want);
    }

    private void play() {
        for (int i = 0; i < 3; i++) {
            call(any(40));
        }
        while (!model.crowned) {
            newCrown();
        }
        for (int i = 0; i < 120; i++) {
            call(any(45));
        }
        all();
    }

    private void newCrown() {
        String text = crown();
        tape(text);
        same("crown() of " + text, hat.crown(), model.crown());
        same("fault(0) of " + text, hat.fault(0), model.fault(0));
        same("fault(1) of " + text, hat.fault(1), model.fault(1));
    }

    private void call(int which) {
        int n = oneIn(10) ? any(9) - 4 : any(6);
        int k = any(8) - 1;
        switch (which) {
            case 0: if (oneIn(4)) { newCrown(); } break;
            case 1: feedAndEnd(); break;
            case 2: same("has(" + n + ")", hat.has(n), model.has(n)); break;
            case 3: same("letter", hat.letter(n, k, any(1) + k), model.letter(n, k, k)); break;
            case 4: same("province(" + k + ", " + n + ")", hat.province(k, n), model.province(k, n)); break;
            case 5: same("trick(" + k + ", " + n + ")", hat.trick(k, n), model.trick(k, n)); break;
            case 6: same("watcher(" + k + ", " + n + ")", hat.watcher(k, n), model.watcher(k, n)); break;
            case 7: same("sight(" + k + ", " + n + ")", hat.sight(k, n), model.sight(k, n)); break;
            case 8: same("kept(" + k + ", " + n + ")", hat.kept(k, n), model.kept(k, n)); break;
            case 9: same("best(" + n + ")", hat.best(n), model.best(n)); break;
            case 10: same("appears", hat.appears(n * k), model.appears(n * k)); break;
            case 11: case 12: {
                int y = any(oneIn(5) ? 65 : 12) - 1;
                same("later(" + y + ", " + n + ")", hat.later(y, n), model.later(y, n));
                break;
            }
            case 13: same("curtain()", hat.curtain(), model.curtain()); break;
            case 14: if (oneIn(3)) { same("both(" + n + ")", hat.both(n), model.both(n)); } break;
            case 15: {
                int y = any(oneIn(5) ? 65 : 12) - 1;
                same("drop(" + y + ")", hat.drop(y), model.drop(y));
                break;
            }
            case 16: case 17: counted(); break;
            case 18: same("shows(" + n + ")", hat.shows(n), model.shows(n)); break;
            case 19: same("where(" + n + ")", hat.where(n), model.where(n)); break;
            case 20: {
                int least = oneIn(8) ? any(104) - 2 : any(12);
                same("watch(" + least + ")", hat.watch(least), model.watch(least));
                break;
            }
            case 21: same("seat(" + k + ")", hat.seat(k), model.seat(k)); break;
            case 22: case 23: case 24: {
                int show = oneIn(8) ? any(100) - 20 : any(64) & any(64) & (1 << model.has(1)) - 1;
                same("show(" + show + ")", hat.show(show), model.show(show));
                break;
            }
            case 25: case 26: {
                int seat = any(12) - 1;
                same("sit(" + k + ", " + seat + ")", hat.sit(k, seat), model.sit(k, seat));
                break;
            }
            case 27: case 28: {
                int coin = oneIn(4) ? any(11000) - 500 : any(40);
                same("move(" + k + ", " + n + ", " + coin + ")", hat.move(k, n, coin), model.move(k, n, coin));
                break;
            }
            case 29: case 30: {
                int y = oneIn(8) ? any(110) - 5 : any(4);
                same("years(" + y + ")", hat.years(y), model.years(y));
                break;
            }
            case 31: {
                int y = oneIn(8) ? any(110) - 5 : any(4);
                same("chance(" + y + ")", hat.chance(y), model.chance(y));
                break;
            }
            case 32: case 33: same("undo()", hat.undo(), model.undo()); break;
            case 34: {
                int seed = random.nextInt();
                same("seed(" + seed + ")", hat.seed(seed), model.seed(seed));
                break;
            }
            case 35: case 36: case 37: case 38: asked(); break;
            case 39: same("image()", hat.image(), model.image()); break;
            case 40: imaged(); break;
            case 41: same("status(" + n + ")", hat.status(n), model.status(n)); break;
            default: all();
        }
    }

    private void feedAndEnd() {
        for (int i = oneIn(6) ? 82 : any(3); i > 0; i--) {
            int[] f = {random.nextInt(), random.nextInt(), random.nextInt(), random.nextInt(), random.nextInt()};
            same("feed", hat.feed(f[0], f[1], f[2], f[3], f[4]), model.feed(f));
        }
        int n = any(70) - 5;
        same("end(" + n + ")", hat.end(n), model.end(n));
    }

    private void counted() {
        int rows = oneIn(6) ? any(18) : 1 + any(2);
        byte[] b = new byte[rows * 3 + (oneIn(10) ? 1 : 0)];
        Model.Now behind = model.ripe(model.now);
        if (model.crowned && !model.possibleShows(model.now).isEmpty()) {
            List<Integer> shows = model.possibleShows(model.now);
            model.take(behind, shows.get(any(shows.size())));
        }
        for (int i = 0; i < rows; i++) {
            int p = oneIn(20) ? any(256) : any(Math.max(1, behind.stores.length));
            int store = oneIn(8) ? any(65536) : p < behind.stores.length ? behind.stores[p] : any(10);
            b[3 * i] = (byte) p;
            b[3 * i + 1] = (byte) (store >> 8);
            b[3 * i + 2] = (byte) store;
        }
        tape(b);
        same("count()", hat.count(), model.count());
    }

    private void asked() {
        String text = question();
        tape(text);
        same("ask() of " + text, hat.ask(), model.ask());
        same("fault(0) of " + text, hat.fault(0), model.fault(0));
        same("fault(1) of " + text, hat.fault(1), model.fault(1));
    }

    private void imaged() {
        model.image();
        hat.image();
        List<Integer> b = new ArrayList<>();
        for (int k = 0; k < model.image.length; k++) {
            same("octet(" + k + ")", hat.octet(k), model.octet(k));
            b.add(model.image[k]);
        }
        same("octet behind", hat.octet(b.size()), -1);
        int check = b.remove(b.size() - 1);
        if (oneIn(2)) {
            int at = any(b.size());
            b.set(at, oneIn(2) ? any(256) : any(5));
            check = Model.check(b);
        }
        if (oneIn(4)) {
            // Near the last YEAR.
            b.set(0, 3);
            b.set(1, any(240));
            check = Model.check(b);
        }
        b.add(oneIn(6) ? any(256) : check);
        if (oneIn(12)) {
            b.add(0);
        }
        byte[] bytes = new byte[b.size()];
        for (int i = 0; i < bytes.length; i++) {
            bytes[i] = (byte) (int) b.get(i);
        }
        tape(bytes);
        same("on()", hat.on(), model.on());
    }

    /** Whatever can be asked without changing anything, but for the dearest. */
    private void all() {
        for (int i = -1; i < 12; i++) {
            same("has(" + i + ")", hat.has(i), model.has(i));
            same("status(" + i + ")", hat.status(i), model.status(i));
            same("fault(" + i + ")", hat.fault(i), model.fault(i));
            same("best(" + i + ")", hat.best(i), model.best(i));
        }
        for (int i = -1; i < 7; i++) {
            same("seat(" + i + ")", hat.seat(i), model.seat(i));
            for (int j = -1; j < 7; j++) {
                same("province", hat.province(i, j), model.province(i, j));
                same("trick", hat.trick(i, j), model.trick(i, j));
                same("watcher", hat.watcher(i, j), model.watcher(i, j));
                same("sight", hat.sight(i, j), model.sight(i, j));
                same("kept", hat.kept(i, j), model.kept(i, j));
                for (int k = -1; k < 7; k++) {
                    same("letter", hat.letter(i, j, k), model.letter(i, j, k));
                }
            }
        }
        for (int show = -2; show < 66; show++) {
            same("appears(" + show + ")", hat.appears(show), model.appears(show));
        }
    }
}
