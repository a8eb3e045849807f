/** Tests of single sentences. Each is quoted as it stands in the document, and has answers of its own behind it. */
final class Edge {
    static final Check CHECK = new Check("EdgeTest");
    static final Doc DOC = new Doc();

    private static String said = "";
    private static int answers = 0;

    private Edge() { }

    /** From here on the answers are those that this sentence asks for. */
    static void says(String section, String words) {
        close();
        said = section + " '" + words + "': ";
        CHECK.due(said + "stands there so often", DOC.quote(section, words), 1);
    }

    static void due(String call, long got, long want) {
        answers++;
        CHECK.due(said + call, got, want);
    }

    static void due(String call, boolean got, boolean want) {
        due(call, got ? 1 : 0, want ? 1 : 0);
    }

    /** A text that has been printed by all() is as it was. */
    static void same(String what, String got, String want) {
        due(what + ": " + got + " and not " + want, got.equals(want), true);
    }

    /** crown() has this FAULT where the mark ^ stands. */
    static void crownFault(int fault, String marked) {
        EmptyHat x = new EmptyHat();
        due("crown() of " + marked, Check.crown(x, marked.replace("^", "")), -1);
        due("fault(0) of " + marked, x.fault(0), fault);
        due("fault(1) of " + marked, x.fault(1), marked.indexOf('^'));
    }

    /** crown() takes this text, of so many STATEMENTS. */
    static EmptyHat crownOf(int statements, String text) {
        EmptyHat x = new EmptyHat();
        due("crown() of " + text, Check.crown(x, text), statements);
        due("fault(0) of " + text, x.fault(0), 0);
        due("fault(1) of " + text, x.fault(1), -1);
        return x;
    }

    /** ask() has this FAULT where the mark ^ stands. */
    static void askFault(EmptyHat x, int fault, String marked) {
        due("ask() of " + marked, Check.ask(x, marked.replace("^", "")), EmptyHat.NOTHING);
        due("fault(0) of " + marked, x.fault(0), fault);
        due("fault(1) of " + marked, x.fault(1), marked.indexOf('^'));
    }

    static void asks(EmptyHat x, String text, long want) {
        due("ask() of " + text, Check.ask(x, text), want);
        due("fault(0) of " + text, x.fault(0), 0);
    }

    /** All that an object tells of its state, but for the latest image, fault and what was refused. */
    static String all(EmptyHat x) {
        StringBuilder b = new StringBuilder();
        for (int what = 0; what <= 10; what++) {
            b.append(x.has(what)).append(' ');
        }
        for (int kind = 0; kind < 3; kind++) {
            for (int i = 0; i < x.has(kind); i++) {
                b.append(x.letter(kind, i, 0)).append(' ');
                for (int what = 0; what < (kind == 1 ? 6 : 3); what++) {
                    int told = kind == 0 ? x.province(i, what) : kind == 1 ? x.trick(i, what) : x.watcher(i, what);
                    b.append(told).append(' ');
                }
            }
        }
        for (int k = 0; k < x.has(8); k++) {
            b.append(x.kept(k, 0)).append(' ').append(x.kept(k, 1)).append(' ').append(x.kept(k, 2)).append(' ');
        }
        for (int what = 0; what < 3; what++) {
            b.append(x.best(what)).append(' ').append(x.later(2, what)).append(' ').append(x.shows(what)).append(' ');
        }
        return b.toString();
    }

    private static void close() {
        if (!said.isEmpty()) {
            CHECK.due(said + "has answers of its own", answers > 0, true);
        }
        answers = 0;
    }

    /** Each promise and each of the terms is quoted from its first to its last word. */
    static void finish() {
        close();
        CHECK.due("promises", DOC.promises(), 35);
        String[] others = {"What it is", "Term I", "Term II", "Term III", "Term IV", "Constants"};
        for (int i = 1; i <= 35; i++) {
            quoted("Promise " + i);
        }
        for (int i = 1; i < others.length; i++) {
            quoted(others[i]);
        }
        CHECK.finish();
    }

    private static void quoted(String section) {
        String rest = DOC.unquoted(section);
        CHECK.due(section + " without a test: " + rest, rest.isEmpty(), true);
    }
}
