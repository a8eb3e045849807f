import java.util.Arrays;

/** The conjuror's treasury: a crown told as a text, its years, its shows and what may come of them. */
public final class EmptyHat {
    public static final int NONE = -1;
    public static final long NOTHING = -1000000000000000L;

    private static final int PROVINCE = 0;
    private static final int TRICK = 1;
    private static final int WATCHER = 2;
    private static final int KINDS = 3;

    private static final int PROVINCES = 6;
    private static final int TRICKS = 6;
    private static final int WATCHERS = 5;
    private static final int SHOWS = 64;
    private static final int SEATS = 10;

    private static final int TAPE_BYTES = 1600;
    private static final int FEED_BYTES = 20;
    private static final int NAME_LETTERS = 6;

    private static final int LAST_YEAR = 999;
    private static final int MOST_STORE = 9999;
    private static final int MOST_DEBT = 99999;
    private static final int MOST_SHOWN = 9999;
    private static final int MOST_KNOWN = 999;
    private static final int MOST_SIGHT = 99;
    private static final int SEEN_THROUGH = 100;
    private static final int MOST_BELIEF = 100;
    private static final int YEARS_AT_ONCE = 100;
    private static final int YEARS_AHEAD = 60;
    private static final int UNDOABLE = 20;
    private static final int BOY_TELLS = 50;

    private static final int BY_TAPE = 0;
    private static final int BY_TEXT = 1;
    private static final int BY_ACT = 2;
    private static final int BY_YEARS = 3;
    private static final int BY_UNDO = 4;
    private static final int BY_SETTING = 5;
    private static final int REFUSALS = 6;

    private final Text text = new Text();
    private Crown crown = new Crown();
    private Crown spare = new Crown();
    private final CrownReader crownReader = new CrownReader(text, spare);
    private final Question question = new Question(text);
    private final Stage stage = new Stage(crown);
    private final Ahead ahead = new Ahead(stage);
    private final Counted counted = new Counted(stage);
    private final Image image = new Image();
    private final State state = new State();
    private final State scratch = new State();
    private final State[] past = new State[UNDOABLE];
    private final int[] refused = new int[REFUSALS];

    private boolean crowned = false;
    private int firstPast = 0;
    private int pastActs = 0;
    private int seed = 1;

    public EmptyHat() {
        for (int i = 0; i < UNDOABLE; i++) {
            past[i] = new State();
        }
    }

    public int feed(int a, int b, int c, int d, int e) {
        if (text.length + FEED_BYTES > TAPE_BYTES) {
            return refuse(BY_TAPE);
        }
        text.append(a);
        text.append(b);
        text.append(c);
        text.append(d);
        text.append(e);
        return text.length;
    }

    public boolean end(int n) {
        if (n < 0 || n > text.length) {
            return refuses(BY_TAPE);
        }
        text.length = n;
        return true;
    }

    public int crown() {
        boolean good = crownReader.readInto(spare);
        text.length = 0;
        if (!good) {
            return refuse(BY_TEXT);
        }
        Crown old = crown;
        crown = spare;
        spare = old;
        crowned = true;
        stage.crown = crown;
        state.startOf(crown);
        counted.rows = 0;
        forgetPast();
        return crownReader.statements;
    }

    public int fault(int what) {
        switch (what) {
            case 0: return text.fault;
            case 1: return text.place;
            default: return NONE;
        }
    }

    public int has(int what) {
        switch (what) {
            case 0: return crown.counts[PROVINCE];
            case 1: return crown.counts[TRICK];
            case 2: return crown.counts[WATCHER];
            case 3: return state.year;
            case 4: return state.debt;
            case 5: return state.belief;
            case 6: return Integer.bitCount(state.seenThrough());
            case 7: return state.allStores();
            case 8: return state.keptRows;
            case 9: return counted.rows;
            case 10: return pastActs;
            default: return NONE;
        }
    }

    public int letter(int kind, int which, int k) {
        if (kind < 0 || kind >= KINDS || !crown.holds(kind, which) || k < 0 || k >= NAME_LETTERS) {
            return NONE;
        }
        int name = crown.names[kind][which];
        for (int behind = k + 1; behind < NAME_LETTERS; behind++) {
            name /= Text.NAME_BASE;
        }
        return name % Text.NAME_BASE;
    }

    public int province(int province, int what) {
        if (!crown.holds(PROVINCE, province)) {
            return NONE;
        }
        switch (what) {
            case 0: return state.stores[province];
            case 1: return crown.yields[province];
            case 2: return crown.tricksFrom(province);
            default: return NONE;
        }
    }

    public int trick(int trick, int what) {
        if (!crown.holds(TRICK, trick)) {
            return NONE;
        }
        switch (what) {
            case 0: return crown.takes[trick];
            case 1: return crown.from[trick];
            case 2: return crown.look[trick];
            case 3: return state.shown[trick];
            case 4: return state.known[trick];
            case 5: return stage.sightOfTrick(state, trick);
            default: return NONE;
        }
    }

    public int watcher(int watcher, int what) {
        if (!crown.holds(WATCHER, watcher)) {
            return NONE;
        }
        switch (what) {
            case 0: return state.seats[watcher];
            case 1: return crown.glass[watcher];
            case 2: return stage.sightFrom(state, watcher, state.seats[watcher]);
            default: return NONE;
        }
    }

    public int sight(int trick, int watcher) {
        if (!crown.holds(TRICK, trick) || !crown.holds(WATCHER, watcher)) {
            return NONE;
        }
        return stage.glimpse(state, trick, watcher, state.seats[watcher]);
    }

    public int kept(int k, int what) {
        if (k < 0 || k >= state.keptRows || what < 0 || what >= State.KEPT_COLUMNS) {
            return NONE;
        }
        return state.keptCells[k * State.KEPT_COLUMNS + what];
    }

    public int best(int what) {
        if (!crowned || what < 0 || what > 2) {
            return NONE;
        }
        scratch.copy(state);
        stage.ripen(scratch);
        stage.lookAtAll(scratch);
        stage.choose(scratch);
        switch (what) {
            case 0: return stage.chosen;
            case 1: return stage.chosenAppears;
            default: return stage.chosenSight;
        }
    }

    public int appears(int show) {
        if (!canGive(show)) {
            return NONE;
        }
        scratch.copy(state);
        stage.ripen(scratch);
        return stage.takeAll(scratch, show);
    }

    public int later(int n, int what) {
        if (!crowned || !ahead.reach(state, n)) {
            return NONE;
        }
        switch (what) {
            case 0: return ahead.debts[n];
            case 1: return ahead.beliefs[n];
            case 2: return ahead.throughs[n];
            case 3: return ahead.coins[n];
            default: return NONE;
        }
    }

    public int curtain() {
        if (!crowned) {
            return NONE;
        }
        for (int n = 0; n <= YEARS_AHEAD; n++) {
            if (!ahead.reach(state, n)) {
                return NONE;
            }
            if (ahead.beliefs[n] == 0) {
                return n;
            }
        }
        return NONE;
    }

    public int both(int what) {
        if (!crowned || what < 0 || what >= Ahead.PAIR_FACTS || state.year + 2 > LAST_YEAR) {
            return NONE;
        }
        ahead.findPair(state);
        return ahead.pair[what];
    }

    public int drop(int n) {
        if (!crowned || !ahead.reach(state, n)) {
            return NONE;
        }
        int dropped = 0;
        for (int i = 1; i <= n; i++) {
            if (ahead.worth(i) > ahead.worth(dropped)) {
                dropped = i;
            }
        }
        return dropped;
    }

    public int count() {
        boolean good = counted.readFrom(text);
        text.length = 0;
        return good ? counted.rows : refuse(BY_TEXT);
    }

    public int shows(int what) {
        if (!crowned || what < 0 || what > 2 || state.year >= LAST_YEAR) {
            return NONE;
        }
        findCounted();
        switch (what) {
            case 0: return counted.fitting;
            case 1: return counted.inAll();
            default: return counted.inSome();
        }
    }

    public int where(int what) {
        if (!crowned || what < 0 || what > 1 || state.year >= LAST_YEAR) {
            return NONE;
        }
        findCounted();
        if (counted.fitting == 0 || crown.counts[PROVINCE] == 0) {
            return NONE;
        }
        counted.choose();
        return what == 0 ? counted.chosen : counted.chosenLeft;
    }

    public int watch(int least) {
        if (!crowned || least < 0 || least > MOST_SIGHT) {
            return NONE;
        }
        return stage.fewestWatchers(state, least);
    }

    public int seat(int watcher) {
        if (!crown.holds(WATCHER, watcher)) {
            return NONE;
        }
        int chosen = 0;
        int most = NONE;
        for (int seat = 0; seat < SEATS; seat++) {
            int seen = stage.sightFrom(state, watcher, seat);
            if (seen > most) {
                most = seen;
                chosen = seat;
            }
        }
        return chosen;
    }

    public int show(int show) {
        if (!canGive(show) || state.year >= LAST_YEAR) {
            return refuse(BY_ACT);
        }
        remember();
        stage.ripen(state);
        stage.lookAtAll(state);
        return stage.give(state, show, stage.sights);
    }

    public boolean sit(int watcher, int seat) {
        if (!crown.holds(WATCHER, watcher) || seat < 0 || seat >= SEATS || state.seats[watcher] == seat) {
            return refuses(BY_ACT);
        }
        remember();
        state.seats[watcher] = seat;
        return true;
    }

    public boolean move(int from, int to, int coin) {
        if (!crown.holds(PROVINCE, from) || !crown.holds(PROVINCE, to) || from == to) {
            return refuses(BY_ACT);
        }
        if (coin < 1 || coin > state.stores[from] || coin > MOST_STORE - state.stores[to]) {
            return refuses(BY_ACT);
        }
        remember();
        state.stores[from] -= coin;
        state.stores[to] += coin;
        return true;
    }

    public int years(int n) {
        if (!canPass(n)) {
            return refuse(BY_YEARS);
        }
        remember();
        int enough = 0;
        for (int i = 0; i < n; i++) {
            if (stage.passYear(state) >= crown.need) {
                enough++;
            }
        }
        return enough;
    }

    public int chance(int n) {
        if (!canPass(n)) {
            return refuse(BY_YEARS);
        }
        remember();
        int boys = 0;
        for (int i = 0; i < n; i++) {
            if (boyTells()) {
                boys++;
            }
            stage.passYear(state);
        }
        return boys;
    }

    public boolean undo() {
        if (pastActs == 0) {
            return refuses(BY_UNDO);
        }
        pastActs--;
        state.copy(past[(firstPast + pastActs) % UNDOABLE]);
        ahead.forget();
        return true;
    }

    public boolean seed(int seed) {
        if (seed < 0) {
            return refuses(BY_SETTING);
        }
        this.seed = seed;
        return true;
    }

    public long ask() {
        if (!crowned) {
            text.length = 0;
            return NOTHING;
        }
        boolean good = question.readAll();
        text.length = 0;
        return good ? question.answer(stage, state) : NOTHING;
    }

    public int image() {
        image.write(state, crown);
        return image.length;
    }

    public int octet(int k) {
        return k < 0 || k >= image.length ? NONE : image.bytes[k];
    }

    public boolean on() {
        boolean good = crowned && image.readable(text, crown);
        if (good) {
            image.read(text, crown, state);
            forgetPast();
        }
        text.length = 0;
        return good || refuses(BY_SETTING);
    }

    public int status(int what) {
        return what < 0 || what >= REFUSALS ? NONE : refused[what];
    }

    private int refuse(int by) {
        refused[by]++;
        return NONE;
    }

    private boolean refuses(int by) {
        refused[by]++;
        return false;
    }

    private boolean canGive(int show) {
        return crowned && show >= 0 && (show & ~stage.showable(state)) == 0;
    }

    private boolean canPass(int n) {
        return crowned && n >= 1 && n <= YEARS_AT_ONCE && state.year + n <= LAST_YEAR;
    }

    private void findCounted() {
        scratch.copy(state);
        stage.ripen(scratch);
        counted.find(scratch);
    }

    private void remember() {
        if (pastActs == UNDOABLE) {
            firstPast = (firstPast + 1) % UNDOABLE;
            pastActs--;
        }
        past[(firstPast + pastActs) % UNDOABLE].copy(state);
        pastActs++;
        ahead.forget();
    }

    private void forgetPast() {
        firstPast = 0;
        pastActs = 0;
        ahead.forget();
    }

    private boolean boyTells() {
        int tricks = crown.counts[TRICK];
        if (draw(100) >= crown.boys || tricks == 0) {
            return false;
        }
        int told = draw(tricks);
        state.known[told] = Math.min(MOST_KNOWN, state.known[told] + BOY_TELLS);
        return true;
    }

    /** A DRAW of m, which is above 0. */
    private int draw(int m) {
        seed = (int) ((1103515245L * seed + 12345L) & 0x7fffffffL);
        return m > 0 ? seed / 64 % m : 0;
    }

    /** The tape, and the words, numbers and signs along it. */
    private static final class Text {
        static final int END = 0;
        static final int WORD = 1;
        static final int NUMBER = 2;
        static final int SIGN = 3;
        /** A word or number that no blank parts from the one ahead of it. */
        static final int GLUED = 4;

        static final int NO_SUCH_TEXT = 1;
        static final int NO_SUCH_NUMBER = 2;
        static final int NO_SUCH_NAME = 3;
        static final int TOO_DEEP = 4;
        static final int TOO_MANY = 5;

        static final int NEED = 0;
        static final int DEBT = 1;
        static final int RATE = 2;
        static final int STORES = 3;
        static final int YIELDS = 4;
        static final int TRICK_WORD = 5;
        static final int TAKES = 6;
        static final int FROM = 7;
        static final int LOOK = 8;
        static final int WATCH = 9;
        static final int SEAT = 10;
        static final int GLASS = 11;
        static final int SEES = 12;
        static final int LOSES = 13;
        static final int BELIEF = 14;
        static final int BOYS = 15;
        static final int TIMES = 16;
        static final int YEAR = 17;
        static final int NUMBER_WORD = 18;
        static final int KNOWN = 19;
        static final int SIGHT = 20;
        static final int LEFT = 21;
        static final int SEEN = 22;
        static final int OR = 23;
        static final int AND = 24;
        static final int NOT = 25;
        static final int ALL = 26;
        static final int MIN = 27;
        static final int MAX = 28;
        static final int OWN_WORDS = 29;
        static final int FIRST = 29;
        static final int LAST = 30;
        static final int OFTEN = 31;
        static final int TOTAL = 32;
        static final int MOST = 33;
        static final int LEAST = 34;
        static final int WORDS = 35;
        /** Six columns a word, in the order of the numbers above. */
        private static final String SPELLED = "need  debt  rate  storesyieldstrick takes from  look  watch seat  glass sees  loses beliefboys  times year  numberknown sight left  seen  or    and   not   all   min   max   first last  often total most  least ";

        /** A NAME is held as a number of six places, a letter a place, 0 behind its last letter. */
        static final int NAME_BASE = 27;
        static final int NUMBER_DIGITS = 4;

        final byte[] bytes = new byte[TAPE_BYTES];
        int length = 0;
        int fault = 0;
        int place = NONE;

        int kind = END;
        int start = 0;
        /** The word's number (NONE for one that is no word of the language), the number, or the sign. */
        int value = 0;
        int name = 0;
        int number = 0;
        private int past = 0;
        /** The words of the language, held as NAMES are. */
        private final int[] words = new int[WORDS];

        Text() {
            for (int i = 0; i < WORDS * NAME_LETTERS; i++) {
                int word = i / NAME_LETTERS;
                char sign = SPELLED.charAt(i);
                words[word] = words[word] * NAME_BASE + (sign == ' ' ? 0 : sign - 'a' + 1);
            }
        }

        void append(int four) {
            for (int shift = 24; shift >= 0; shift -= 8) {
                if (length < TAPE_BYTES) {
                    bytes[length] = (byte) (four >> shift);
                    length++;
                }
            }
        }

        int byteAt(int k) {
            return k < 0 || k >= length ? NONE : bytes[k] & 255;
        }

        void begin() {
            fault = 0;
            place = NONE;
            kind = END;
            past = 0;
            next();
        }

        void next() {
            int behind = past;
            boolean wasPlain = kind == WORD || kind == NUMBER;
            start = past;
            while (start < length && (bytes[start] == ' ' || bytes[start] == '\n')) {
                start++;
            }
            past = start;
            int sign = start < length ? bytes[start] : NONE;
            if (start >= length) {
                kind = END;
            } else if (sign >= 'a' && sign <= 'z') {
                readWord();
            } else if (sign >= '0' && sign <= '9') {
                readDigits();
            } else {
                kind = SIGN;
                value = sign & 255;
                past = start + 1;
            }
            if (wasPlain && start == behind && (kind == WORD || kind == NUMBER)) {
                kind = GLUED;
            }
        }

        boolean wrong(int what, int at) {
            fault = what;
            place = at;
            return false;
        }

        boolean isWord(int word) {
            return kind == WORD && value == word;
        }

        boolean isSign(char sign) {
            return kind == SIGN && value == sign;
        }

        boolean takeWord(int word) {
            if (!isWord(word)) {
                return wrong(NO_SUCH_TEXT, start);
            }
            next();
            return true;
        }

        boolean takeSign(char sign) {
            if (!isSign(sign)) {
                return wrong(NO_SUCH_TEXT, start);
            }
            next();
            return true;
        }

        boolean takeNumber(int least, int most) {
            if (kind != NUMBER) {
                return wrong(NO_SUCH_TEXT, start);
            }
            if (past - start > NUMBER_DIGITS) {
                return wrong(NO_SUCH_TEXT, start + NUMBER_DIGITS);
            }
            if (value < least || value > most) {
                return wrong(NO_SUCH_NUMBER, start);
            }
            number = value;
            next();
            return true;
        }

        /** Whether a NAME stands here; it is not taken, so that its own faults can be told at it. */
        boolean nameHere() {
            if (kind != WORD) {
                return wrong(NO_SUCH_TEXT, start);
            }
            if (past - start > NAME_LETTERS) {
                return wrong(NO_SUCH_TEXT, start + NAME_LETTERS);
            }
            if (value >= 0 && value < OWN_WORDS) {
                return wrong(NO_SUCH_TEXT, start);
            }
            return true;
        }

        private void readWord() {
            kind = WORD;
            name = 0;
            while (past < length && bytes[past] >= 'a' && bytes[past] <= 'z') {
                // A word of more letters is no NAME: only its length is asked then.
                if (past - start < NAME_LETTERS) {
                    name = name * NAME_BASE + bytes[past] - 'a' + 1;
                }
                past++;
            }
            for (int k = past - start; k < NAME_LETTERS; k++) {
                name *= NAME_BASE;
            }
            value = NONE;
            for (int word = 0; word < WORDS && past - start <= NAME_LETTERS; word++) {
                if (words[word] == name) {
                    value = word;
                }
            }
        }

        private void readDigits() {
            kind = NUMBER;
            value = 0;
            while (past < length && bytes[past] >= '0' && bytes[past] <= '9') {
                // Digits beyond the fourth are a fault of their own: they must not overflow the number.
                if (past - start < NUMBER_DIGITS) {
                    value = value * 10 + bytes[past] - '0';
                }
                past++;
            }
        }
    }

    /** A SUM or a TEST as steps on a stack, its operands ahead of each operation. */
    private static final class Formula {
        /** Codes below this are the numbers of the text; from here on, with a word's number, its facts. */
        static final int FACT = 10000;
        static final int PLUS = 10100;
        static final int LESS = 10101;
        static final int TIMES = 10102;
        static final int PER = 10103;
        static final int LOWER = 10104;
        static final int HIGHER = 10105;
        static final int BOTH_HOLD = 10106;
        static final int ONE_HOLDS = 10107;
        static final int UNDER = 10108;
        static final int ABOVE = 10109;
        static final int LIKE = 10110;
        /** From here on of one operand alone. */
        static final int HOLDS_NOT = 10111;
        static final int SEEN_BY = 10112;

        /** Facts are told by the words' numbers; behind them the SIGHT by each WATCHER. */
        static final int SEEN_FACTS = Text.WORDS;
        static final int FACTS = Text.WORDS + WATCHERS;

        private static final int LIMIT = 1000000;
        /** Six things open at once leave less than half of this waiting. */
        private static final int STACK = 64;

        private final int[] codes = new int[TAPE_BYTES];
        private final int[] stack = new int[STACK];
        private int length = 0;

        void clear() {
            length = 0;
        }

        void add(int code) {
            if (length < codes.length) {
                codes[length] = code;
                length++;
            }
        }

        int value(int[] facts) {
            int top = 0;
            for (int i = 0; i < length; i++) {
                int code = codes[i];
                if (code < PLUS) {
                    if (top < STACK) {
                        stack[top] = code < FACT ? code : factAt(facts, code - FACT);
                        top++;
                    }
                } else if (code >= HOLDS_NOT) {
                    if (top > 0) {
                        stack[top - 1] = single(code, stack[top - 1], facts);
                    }
                } else if (top > 1) {
                    top--;
                    stack[top - 1] = bounded(joined(code, stack[top - 1], stack[top]));
                }
            }
            return top > 0 ? stack[0] : 0;
        }

        private static int factAt(int[] facts, int which) {
            return which < 0 || which >= facts.length ? 0 : facts[which];
        }

        private static int single(int code, int a, int[] facts) {
            if (code == HOLDS_NOT) {
                return a == 0 ? 1 : 0;
            }
            return a < 0 || a >= WATCHERS ? 0 : factAt(facts, SEEN_FACTS + a);
        }

        private static long joined(int code, long a, long b) {
            switch (code) {
                case PLUS: return a + b;
                case LESS: return a - b;
                case TIMES: return a * b;
                case PER: return b == 0 ? 0 : Math.floorDiv(a, b);
                case LOWER: return Math.min(a, b);
                case HIGHER: return Math.max(a, b);
                case BOTH_HOLD: return a & b;
                case ONE_HOLDS: return a | b;
                case UNDER: return a < b ? 1 : 0;
                case ABOVE: return a > b ? 1 : 0;
                default: return a == b ? 1 : 0;
            }
        }

        private static int bounded(long a) {
            return (int) Math.max(-LIMIT, Math.min(LIMIT, a));
        }
    }

    /** Reads SUMS and TESTS into formulas. Each reading tells by true that no FAULT came up. */
    private static final class Reader {
        private static final int OPEN = 6;

        private final Text text;
        private Formula formula;
        /** The words that are PARTS here, as bits. */
        private int parts = 0;

        Reader(Text text, Formula first) {
            this.text = text;
            this.formula = first;
        }

        boolean readSum(Formula into, int words) {
            aim(into, words);
            return sum(0);
        }

        boolean readTest(Formula into, int words) {
            aim(into, words);
            return test(0);
        }

        private void aim(Formula into, int words) {
            formula = into;
            formula.clear();
            parts = words;
        }

        private boolean test(int open) {
            if (!facts(open)) {
                return false;
            }
            for (int i = 0; i < TAPE_BYTES && text.isWord(Text.OR); i++) {
                text.next();
                if (!facts(open)) {
                    return false;
                }
                formula.add(Formula.ONE_HOLDS);
            }
            return true;
        }

        private boolean facts(int open) {
            if (!fact(open)) {
                return false;
            }
            for (int i = 0; i < TAPE_BYTES && text.isWord(Text.AND); i++) {
                text.next();
                if (!fact(open)) {
                    return false;
                }
                formula.add(Formula.BOTH_HOLD);
            }
            return true;
        }

        private boolean fact(int open) {
            if (text.isWord(Text.NOT)) {
                if (!opens(open) || !fact(open + 1)) {
                    return false;
                }
                formula.add(Formula.HOLDS_NOT);
                return true;
            }
            if (text.isSign('[')) {
                return opens(open) && test(open + 1) && text.takeSign(']');
            }
            if (text.isWord(Text.ALL)) {
                text.next();
                formula.add(1);
                return true;
            }
            return compared(open);
        }

        private boolean compared(int open) {
            if (!sum(open)) {
                return false;
            }
            int code = text.isSign('<') ? Formula.UNDER : text.isSign('>') ? Formula.ABOVE
                : text.isSign('=') ? Formula.LIKE : NONE;
            if (code == NONE) {
                return text.wrong(Text.NO_SUCH_TEXT, text.start);
            }
            text.next();
            if (!sum(open)) {
                return false;
            }
            formula.add(code);
            return true;
        }

        private boolean sum(int open) {
            if (!product(open)) {
                return false;
            }
            for (int i = 0; i < TAPE_BYTES && (text.isSign('+') || text.isSign('-')); i++) {
                int code = text.isSign('+') ? Formula.PLUS : Formula.LESS;
                text.next();
                if (!product(open)) {
                    return false;
                }
                formula.add(code);
            }
            return true;
        }

        private boolean product(int open) {
            if (!part(open)) {
                return false;
            }
            for (int i = 0; i < TAPE_BYTES && (text.isSign('*') || text.isSign('/')); i++) {
                int code = text.isSign('*') ? Formula.TIMES : Formula.PER;
                text.next();
                if (!part(open)) {
                    return false;
                }
                formula.add(code);
            }
            return true;
        }

        private boolean part(int open) {
            if (text.kind == Text.NUMBER) {
                if (!text.takeNumber(0, 9999)) {
                    return false;
                }
                formula.add(text.number);
                return true;
            }
            if (text.isSign('(')) {
                return opens(open) && sum(open + 1) && text.takeSign(')');
            }
            if (text.isWord(Text.MIN) || text.isWord(Text.MAX)) {
                return oneOfTwo(open);
            }
            if (!isPart()) {
                return text.wrong(Text.NO_SUCH_TEXT, text.start);
            }
            if (text.isWord(Text.SEEN)) {
                if (!opens(open) || !part(open + 1)) {
                    return false;
                }
                formula.add(Formula.SEEN_BY);
                return true;
            }
            formula.add(Formula.FACT + text.value);
            text.next();
            return true;
        }

        private boolean oneOfTwo(int open) {
            int code = text.isWord(Text.MIN) ? Formula.LOWER : Formula.HIGHER;
            text.next();
            if (!text.isSign('(')) {
                return text.wrong(Text.NO_SUCH_TEXT, text.start);
            }
            if (!opens(open) || !sum(open + 1) || !text.takeSign(',') || !sum(open + 1)) {
                return false;
            }
            formula.add(code);
            return text.takeSign(')');
        }

        private boolean isPart() {
            return text.kind == Text.WORD && text.value >= 0 && text.value < Text.OWN_WORDS
                && (parts >> text.value & 1) == 1;
        }

        /** Takes what opens one thing more, unless that would be the seventh at once. */
        private boolean opens(int open) {
            if (open >= OPEN) {
                return text.wrong(Text.TOO_DEEP, text.start);
            }
            text.next();
            return true;
        }
    }

    /** What a CROWN tells once and for all. */
    private static final class Crown {
        int need = 0;
        int debt = 0;
        int rate = 0;
        int belief = 0;
        int boys = 0;
        final int[] counts = new int[KINDS];
        final int[][] names = new int[KINDS][TRICKS];
        final int[] stores = new int[PROVINCES];
        final int[] yields = new int[PROVINCES];
        final int[] takes = new int[TRICKS];
        final int[] from = new int[TRICKS];
        final int[] look = new int[TRICKS];
        final int[] seats = new int[WATCHERS];
        final int[] glass = new int[WATCHERS];
        final Formula sees = new Formula();
        final Formula loses = new Formula();

        void clear() {
            belief = 50;
            boys = 0;
            Arrays.fill(counts, 0);
            sees.clear();
            sees.add(Formula.FACT + Text.GLASS);
            loses.clear();
            loses.add(10);
        }

        boolean holds(int kind, int which) {
            return which >= 0 && which < counts[kind];
        }

        int numberOf(int kind, int name) {
            for (int i = 0; i < counts[kind]; i++) {
                if (names[kind][i] == name) {
                    return i;
                }
            }
            return NONE;
        }

        int tricksFrom(int province) {
            int bits = 0;
            for (int t = 0; t < counts[TRICK]; t++) {
                if (from[t] == province) {
                    bits |= 1 << t;
                }
            }
            return bits;
        }
    }

    /** Reads the text of a CROWN. Each reading tells by true that no FAULT came up. */
    private static final class CrownReader {
        private static final int STATEMENTS = 60;
        private static final int SEES_PARTS = 1 << Text.LOOK | 1 << Text.TIMES | 1 << Text.YEAR
            | 1 << Text.SEAT | 1 << Text.GLASS;
        private static final int LOSES_PARTS = 1 << Text.LOOK | 1 << Text.TIMES | 1 << Text.YEAR
            | 1 << Text.TAKES | 1 << Text.BELIEF;

        private final Text text;
        private final Reader reader;
        private Crown crown;
        /** The words of which there has been the one STATEMENT that there may be, as bits. */
        private int toldOnce = 0;
        int statements = 0;

        CrownReader(Text text, Crown first) {
            this.text = text;
            this.crown = first;
            this.reader = new Reader(text, first.sees);
        }

        boolean readInto(Crown into) {
            crown = into;
            crown.clear();
            toldOnce = 0;
            text.begin();
            if (!treasury() || !text.takeSign(';')) {
                return false;
            }
            for (statements = 1; statements < STATEMENTS && text.kind != Text.END; statements++) {
                if (!statement() || !text.takeSign(';')) {
                    return false;
                }
            }
            return text.kind == Text.END || text.wrong(Text.TOO_MANY, text.start);
        }

        private boolean treasury() {
            if (!text.takeWord(Text.NEED) || !text.takeNumber(0, 9999)) {
                return false;
            }
            crown.need = text.number;
            if (!text.takeWord(Text.DEBT) || !text.takeNumber(0, 9999)) {
                return false;
            }
            crown.debt = text.number;
            if (!text.takeWord(Text.RATE) || !text.takeNumber(0, 99)) {
                return false;
            }
            crown.rate = text.number;
            return true;
        }

        private boolean statement() {
            if (text.kind != Text.WORD) {
                return text.wrong(Text.NO_SUCH_TEXT, text.start);
            }
            switch (text.value) {
                case Text.STORES: return oneMore(PROVINCE, PROVINCES) && newProvince();
                case Text.TRICK_WORD: return oneMore(TRICK, TRICKS) && newTrick();
                case Text.WATCH: return oneMore(WATCHER, WATCHERS) && newWatcher();
                case Text.SEES: return onlyOne() && reader.readSum(crown.sees, SEES_PARTS);
                case Text.LOSES: return onlyOne() && reader.readSum(crown.loses, LOSES_PARTS);
                case Text.BELIEF: return beliefAtFirst();
                case Text.BOYS: return boysOfHundred();
                default: return text.wrong(Text.NO_SUCH_TEXT, text.start);
            }
        }

        /** Takes the first word of a kind's STATEMENT, and the NAME behind it, if one more can be. */
        private boolean oneMore(int kind, int most) {
            int which = crown.counts[kind];
            if (which >= most) {
                return text.wrong(Text.TOO_MANY, text.start);
            }
            text.next();
            if (!text.nameHere()) {
                return false;
            }
            for (int other = 0; other < KINDS; other++) {
                if (crown.numberOf(other, text.name) != NONE) {
                    return text.wrong(Text.NO_SUCH_NAME, text.start);
                }
            }
            crown.names[kind][which] = text.name;
            text.next();
            return true;
        }

        /** Takes the first word of a STATEMENT of which there is one alone. */
        private boolean onlyOne() {
            int word = 1 << text.value;
            if ((toldOnce & word) != 0) {
                return text.wrong(Text.TOO_MANY, text.start);
            }
            toldOnce |= word;
            text.next();
            return true;
        }

        private boolean newProvince() {
            int p = crown.counts[PROVINCE];
            if (!text.takeNumber(0, MOST_STORE)) {
                return false;
            }
            crown.stores[p] = text.number;
            if (!text.takeWord(Text.YIELDS) || !text.takeNumber(0, 999)) {
                return false;
            }
            crown.yields[p] = text.number;
            crown.counts[PROVINCE]++;
            return true;
        }

        private boolean newTrick() {
            int t = crown.counts[TRICK];
            if (!text.takeWord(Text.TAKES) || !text.takeNumber(1, 999)) {
                return false;
            }
            crown.takes[t] = text.number;
            if (!text.takeWord(Text.FROM) || !text.nameHere()) {
                return false;
            }
            int province = crown.numberOf(PROVINCE, text.name);
            if (province == NONE) {
                return text.wrong(Text.NO_SUCH_NAME, text.start);
            }
            crown.from[t] = province;
            text.next();
            if (!text.takeWord(Text.LOOK) || !text.takeNumber(0, 9)) {
                return false;
            }
            crown.look[t] = text.number;
            crown.counts[TRICK]++;
            return true;
        }

        private boolean newWatcher() {
            int w = crown.counts[WATCHER];
            if (!text.takeWord(Text.SEAT) || !text.takeNumber(0, SEATS - 1)) {
                return false;
            }
            crown.seats[w] = text.number;
            if (!text.takeWord(Text.GLASS) || !text.takeNumber(0, 9)) {
                return false;
            }
            crown.glass[w] = text.number;
            crown.counts[WATCHER]++;
            return true;
        }

        private boolean beliefAtFirst() {
            text.next();
            if (!text.takeNumber(1, MOST_BELIEF)) {
                return false;
            }
            crown.belief = text.number;
            return true;
        }

        private boolean boysOfHundred() {
            text.next();
            if (!text.takeNumber(0, 100)) {
                return false;
            }
            crown.boys = text.number;
            return true;
        }
    }

    /** A QUESTION of all TRICKS. */
    private static final class Question {
        private static final int PARTS = 1 << Text.NUMBER_WORD | 1 << Text.TAKES | 1 << Text.LOOK
            | 1 << Text.TIMES | 1 << Text.KNOWN | 1 << Text.SIGHT | 1 << Text.LEFT | 1 << Text.YEAR
            | 1 << Text.SEEN;

        private final Text text;
        private final Reader reader;
        private final Formula formula = new Formula();
        private final int[] facts = new int[Formula.FACTS];
        private int verb = NONE;

        Question(Text text) {
            this.text = text;
            this.reader = new Reader(text, formula);
        }

        boolean readAll() {
            text.begin();
            if (text.kind != Text.WORD || text.value < Text.FIRST) {
                return text.wrong(Text.NO_SUCH_TEXT, text.start);
            }
            verb = text.value;
            text.next();
            boolean good = verb <= Text.OFTEN ? reader.readTest(formula, PARTS) : reader.readSum(formula, PARTS);
            if (!good) {
                return false;
            }
            return text.kind == Text.END || text.wrong(Text.NO_SUCH_TEXT, text.start);
        }

        long answer(Stage stage, State state) {
            long told = verb == Text.FIRST || verb == Text.LAST ? NONE : 0;
            for (int t = 0; t < stage.crown.counts[TRICK]; t++) {
                stage.describe(state, t, facts);
                told = with(told, t, formula.value(facts));
            }
            return told;
        }

        private long with(long told, int trick, int value) {
            switch (verb) {
                case Text.FIRST: return told == NONE && value != 0 ? trick : told;
                case Text.LAST: return value != 0 ? trick : told;
                case Text.MOST: return trick == 0 ? value : Math.max(told, value);
                case Text.LEAST: return trick == 0 ? value : Math.min(told, value);
                default: return told + value;
            }
        }
    }

    /** What changes from YEAR to YEAR and by ACTS. */
    private static final class State {
        static final int KEPT_COLUMNS = 3;
        private static final int KEPT_ROWS = 30;

        int year = 0;
        int debt = 0;
        int belief = 0;
        final int[] stores = new int[PROVINCES];
        final int[] shown = new int[TRICKS];
        final int[] known = new int[TRICKS];
        final int[] seats = new int[WATCHERS];
        int keptRows = 0;
        final int[] keptCells = new int[KEPT_ROWS * KEPT_COLUMNS];

        void startOf(Crown crown) {
            year = 0;
            debt = crown.debt;
            belief = crown.belief;
            keptRows = 0;
            for (int p = 0; p < PROVINCES; p++) {
                stores[p] = crown.holds(PROVINCE, p) ? crown.stores[p] : 0;
            }
            Arrays.fill(shown, 0);
            Arrays.fill(known, 0);
            System.arraycopy(crown.seats, 0, seats, 0, WATCHERS);
        }

        void copy(State other) {
            year = other.year;
            debt = other.debt;
            belief = other.belief;
            keptRows = other.keptRows;
            System.arraycopy(other.stores, 0, stores, 0, PROVINCES);
            System.arraycopy(other.shown, 0, shown, 0, TRICKS);
            System.arraycopy(other.known, 0, known, 0, TRICKS);
            System.arraycopy(other.seats, 0, seats, 0, WATCHERS);
            System.arraycopy(other.keptCells, 0, keptCells, 0, keptRows * KEPT_COLUMNS);
        }

        void keep(int trick) {
            if (keptRows == KEPT_ROWS) {
                keptRows--;
                System.arraycopy(keptCells, KEPT_COLUMNS, keptCells, 0, keptRows * KEPT_COLUMNS);
            }
            int at = keptRows * KEPT_COLUMNS;
            keptCells[at] = year;
            keptCells[at + 1] = trick;
            keptCells[at + 2] = belief;
            keptRows++;
        }

        int seenThrough() {
            int bits = 0;
            for (int t = 0; t < TRICKS; t++) {
                if (known[t] >= SEEN_THROUGH) {
                    bits |= 1 << t;
                }
            }
            return bits;
        }

        int allStores() {
            int all = 0;
            for (int p = 0; p < PROVINCES; p++) {
                all += stores[p];
            }
            return all;
        }
    }

    /** What is seen, what APPEARS and how a YEAR goes by, in any state of a CROWN. */
    private static final class Stage {
        Crown crown;
        /** The SIGHT of each TRICK in the state looked at last, of those that can be shown there. */
        final int[] sights = new int[TRICKS];
        /** What is in each store behind the show taken last. */
        final int[] left = new int[PROVINCES];
        int chosen = 0;
        int chosenAppears = 0;
        int chosenSight = 0;
        private final int[] facts = new int[Formula.FACTS];
        private final int[] seenBy = new int[WATCHERS];

        Stage(Crown crown) {
            this.crown = crown;
        }

        int glimpse(State state, int trick, int watcher, int seat) {
            facts[Text.LOOK] = crown.look[trick];
            facts[Text.TIMES] = state.shown[trick];
            facts[Text.YEAR] = state.year;
            facts[Text.SEAT] = seat;
            facts[Text.GLASS] = crown.glass[watcher];
            return Math.max(0, Math.min(MOST_SIGHT, crown.sees.value(facts)));
        }

        int sightOfTrick(State state, int trick) {
            int all = 0;
            for (int w = 0; w < crown.counts[WATCHER]; w++) {
                all += glimpse(state, trick, w, state.seats[w]);
            }
            return all;
        }

        int sightFrom(State state, int watcher, int seat) {
            int all = 0;
            for (int t = 0; t < crown.counts[TRICK]; t++) {
                all += glimpse(state, t, watcher, seat);
            }
            return all;
        }

        void lookAtAll(State state) {
            int showable = showable(state);
            for (int t = 0; t < crown.counts[TRICK]; t++) {
                sights[t] = 0;
                for (int w = 0; w < crown.counts[WATCHER] && (showable >> t & 1) == 1; w++) {
                    sights[t] += glimpse(state, t, w, state.seats[w]);
                }
            }
        }

        /** The facts of a TRICK for a QUESTION. */
        void describe(State state, int trick, int[] into) {
            int all = 0;
            for (int w = 0; w < WATCHERS; w++) {
                int seen = crown.holds(WATCHER, w) ? glimpse(state, trick, w, state.seats[w]) : 0;
                into[Formula.SEEN_FACTS + w] = seen;
                all += seen;
            }
            into[Text.NUMBER_WORD] = trick;
            into[Text.TAKES] = crown.takes[trick];
            into[Text.LOOK] = crown.look[trick];
            into[Text.TIMES] = state.shown[trick];
            into[Text.KNOWN] = state.known[trick];
            into[Text.SIGHT] = all;
            into[Text.LEFT] = state.stores[crown.from[trick]];
            into[Text.YEAR] = state.year;
        }

        /** The TRICKS of which a SHOW can be, as bits. */
        int showable(State state) {
            if (state.belief == 0) {
                return 0;
            }
            return (1 << crown.counts[TRICK]) - 1 & ~state.seenThrough();
        }

        void ripen(State state) {
            for (int p = 0; p < crown.counts[PROVINCE]; p++) {
                state.stores[p] = Math.min(MOST_STORE, state.stores[p] + crown.yields[p]);
            }
        }

        /** What APPEARS by a show of what is in the stores now; the state stays. */
        int takeAll(State state, int show) {
            System.arraycopy(state.stores, 0, left, 0, PROVINCES);
            int all = 0;
            for (int t = 0; t < crown.counts[TRICK]; t++) {
                if ((show >> t & 1) == 1) {
                    int province = crown.from[t];
                    int taken = Math.min(crown.takes[t], left[province]);
                    left[province] -= taken;
                    all += taken;
                }
            }
            return all;
        }

        /** Finds the BEST SHOW; the state's yields have come, and it was looked at. */
        void choose(State state) {
            int showable = showable(state);
            chosen = 0;
            chosenAppears = 0;
            chosenSight = 0;
            for (int show = 1; show <= showable; show++) {
                if ((show & ~showable) == 0) {
                    int appearing = takeAll(state, show);
                    int seen = sightOfShow(show);
                    if (isBetter(show, appearing, seen)) {
                        chosen = show;
                        chosenAppears = appearing;
                        chosenSight = seen;
                    }
                }
            }
        }

        /** Of like ones the show found first stays, which has the least bits. */
        private boolean isBetter(int show, int appearing, int seen) {
            // Beyond the need more is no better, so all shows that are ENOUGH are like ones here.
            int gain = Math.min(appearing, crown.need) - Math.min(chosenAppears, crown.need);
            if (gain != 0) {
                return gain > 0;
            }
            if (seen != chosenSight) {
                return seen < chosenSight;
            }
            return Integer.bitCount(show) < Integer.bitCount(chosen);
        }

        private int sightOfShow(int show) {
            int all = 0;
            for (int t = 0; t < crown.counts[TRICK]; t++) {
                if ((show >> t & 1) == 1) {
                    all += sights[t];
                }
            }
            return all;
        }

        /** A YEAR with the BEST SHOW: what APPEARS. */
        int passYear(State state) {
            ripen(state);
            lookAtAll(state);
            choose(state);
            return give(state, chosen, sights);
        }

        /** Gives a show, the yields having come, and ends the YEAR: what APPEARS. */
        int give(State state, int show, int[] seen) {
            int appearing = takeAll(state, show);
            System.arraycopy(left, 0, state.stores, 0, PROVINCES);
            int through = 0;
            for (int t = 0; t < crown.counts[TRICK]; t++) {
                if ((show >> t & 1) == 1) {
                    state.known[t] = Math.min(MOST_KNOWN, state.known[t] + seen[t]);
                    state.shown[t] = Math.min(MOST_SHOWN, state.shown[t] + 1);
                    if (state.known[t] >= SEEN_THROUGH) {
                        through |= 1 << t;
                    }
                }
            }
            loseBelief(state, through);
            pay(state, appearing);
            state.year = Math.min(LAST_YEAR, state.year + 1);
            return appearing;
        }

        private void loseBelief(State state, int through) {
            for (int t = 0; t < crown.counts[TRICK]; t++) {
                if ((through >> t & 1) == 1) {
                    facts[Text.LOOK] = crown.look[t];
                    facts[Text.TIMES] = state.shown[t];
                    facts[Text.YEAR] = state.year;
                    facts[Text.TAKES] = crown.takes[t];
                    facts[Text.BELIEF] = state.belief;
                    int lost = Math.max(0, crown.loses.value(facts));
                    state.belief = Math.max(0, state.belief - lost);
                    state.keep(t);
                }
            }
        }

        private void pay(State state, int appearing) {
            int debt = Math.max(0, state.debt + crown.need - appearing);
            state.debt = Math.min(MOST_DEBT, debt + debt * crown.rate / 100);
        }

        /** The fewest WATCHERS by whom each TRICK is seen by so much at least, as bits; NONE without. */
        int fewestWatchers(State state, int least) {
            int watchers = crown.counts[WATCHER];
            int tricks = crown.counts[TRICK];
            for (int w = 0; w < watchers; w++) {
                seenBy[w] = 0;
                for (int t = 0; t < tricks; t++) {
                    if (glimpse(state, t, w, state.seats[w]) >= least) {
                        seenBy[w] |= 1 << t;
                    }
                }
            }
            int fewest = NONE;
            for (int set = 0; set < 1 << watchers; set++) {
                boolean fewer = fewest == NONE || Integer.bitCount(set) < Integer.bitCount(fewest);
                if (fewer && seenByAny(set) == (1 << tricks) - 1) {
                    fewest = set;
                }
            }
            return fewest;
        }

        private int seenByAny(int set) {
            int bits = 0;
            for (int w = 0; w < crown.counts[WATCHER]; w++) {
                if ((set >> w & 1) == 1) {
                    bits |= seenBy[w];
                }
            }
            return bits;
        }
    }

    /** YEARS AHEAD of a state, held until that state is another one. */
    private static final class Ahead {
        static final int PAIR_FACTS = 4;

        final int[] debts = new int[YEARS_AHEAD + 1];
        final int[] beliefs = new int[YEARS_AHEAD + 1];
        final int[] throughs = new int[YEARS_AHEAD + 1];
        final int[] coins = new int[YEARS_AHEAD + 1];
        /** BOTH: the first show, the second one, debt and BELIEF behind them. */
        final int[] pair = new int[PAIR_FACTS];
        private final Stage stage;
        private final State front = new State();
        private final State ripe = new State();
        private final State between = new State();
        private final State behind = new State();
        private final int[] now = new int[TRICKS];
        private final int[] unshown = new int[TRICKS];
        private final int[] again = new int[TRICKS];
        private final int[] next = new int[TRICKS];
        private int reached = NONE;
        private boolean paired = false;

        Ahead(Stage stage) {
            this.stage = stage;
        }

        void forget() {
            reached = NONE;
            paired = false;
        }

        /** Whether there are n YEARS AHEAD; if so, they are worked out. */
        boolean reach(State from, int n) {
            if (n < 0 || n > YEARS_AHEAD || from.year + n > LAST_YEAR) {
                return false;
            }
            if (reached == NONE) {
                front.copy(from);
                note(0);
            }
            for (int i = reached + 1; i <= n; i++) {
                stage.passYear(front);
                note(i);
            }
            return true;
        }

        int worth(int n) {
            return 100 * beliefs[n] - debts[n];
        }

        void findPair(State from) {
            if (paired) {
                return;
            }
            paired = true;
            ripe.copy(from);
            stage.ripen(ripe);
            int showable = stage.showable(ripe);
            lookAhead(showable);
            // No debt is so high: whatever the first pair is, it is the best as yet.
            pair[2] = MOST_DEBT + 1;
            for (int first = 0; first <= showable; first++) {
                if ((first & ~showable) == 0) {
                    between.copy(ripe);
                    stage.give(between, first, now);
                    stage.ripen(between);
                    pairWith(first);
                }
            }
        }

        /** A TRICK's SIGHT in the next YEAR depends on nothing but whether it is in the first show. */
        private void lookAhead(int showable) {
            stage.lookAtAll(ripe);
            System.arraycopy(stage.sights, 0, now, 0, TRICKS);
            for (int t = 0; t < TRICKS; t++) {
                if ((showable >> t & 1) == 1) {
                    between.copy(ripe);
                    between.year++;
                    unshown[t] = stage.sightOfTrick(between, t);
                    between.shown[t] = Math.min(MOST_SHOWN, between.shown[t] + 1);
                    again[t] = stage.sightOfTrick(between, t);
                }
            }
        }

        private void pairWith(int first) {
            for (int t = 0; t < TRICKS; t++) {
                next[t] = (first >> t & 1) == 1 ? again[t] : unshown[t];
            }
            int showable = stage.showable(between);
            for (int second = 0; second <= showable; second++) {
                if ((second & ~showable) == 0) {
                    behind.copy(between);
                    stage.give(behind, second, next);
                    if (behind.debt < pair[2] || behind.debt == pair[2] && behind.belief > pair[3]) {
                        pair[0] = first;
                        pair[1] = second;
                        pair[2] = behind.debt;
                        pair[3] = behind.belief;
                    }
                }
            }
        }

        private void note(int n) {
            debts[n] = front.debt;
            beliefs[n] = front.belief;
            throughs[n] = front.seenThrough();
            coins[n] = front.allStores();
            reached = n;
        }
    }

    /** What is COUNTED, and the SHOWS by which it is so. */
    private static final class Counted {
        private static final int ROWS = 16;
        private static final int ROW_BYTES = 3;

        int rows = 0;
        int fitting = 0;
        int chosen = NONE;
        int chosenLeft = 0;
        private final Stage stage;
        private final int[] provinces = new int[ROWS];
        private final int[] stores = new int[ROWS];
        private final int[] fits = new int[SHOWS];
        private final int[][] lefts = new int[PROVINCES][SHOWS];

        Counted(Stage stage) {
            this.stage = stage;
        }

        /** Whether the tape tells rows; if not, those that there were stay. */
        boolean readFrom(Text tape) {
            int told = tape.length / ROW_BYTES;
            if (told < 1 || told > ROWS || told * ROW_BYTES != tape.length) {
                return false;
            }
            for (int i = 0; i < told; i++) {
                if (!stage.crown.holds(PROVINCE, tape.byteAt(i * ROW_BYTES))) {
                    return false;
                }
            }
            for (int i = 0; i < told; i++) {
                provinces[i] = tape.byteAt(i * ROW_BYTES);
                stores[i] = tape.byteAt(i * ROW_BYTES + 1) << 8 | tape.byteAt(i * ROW_BYTES + 2);
            }
            rows = told;
            return true;
        }

        /** Finds the SHOWS that fit in a YEAR whose yields have come. */
        void find(State ripe) {
            int showable = stage.showable(ripe);
            fitting = 0;
            for (int show = 0; show <= showable && show < SHOWS; show++) {
                if ((show & ~showable) == 0) {
                    stage.takeAll(ripe, show);
                    if (isSo()) {
                        addFitting(show);
                    }
                }
            }
        }

        int inAll() {
            int bits = fitting == 0 ? 0 : fits[0];
            for (int i = 0; i < fitting; i++) {
                bits &= fits[i];
            }
            return bits;
        }

        int inSome() {
            int bits = 0;
            for (int i = 0; i < fitting; i++) {
                bits |= fits[i];
            }
            return bits;
        }

        /** Finds the PROVINCE to COUNT. */
        void choose() {
            chosen = NONE;
            chosenLeft = SHOWS + 1;
            for (int p = 0; p < stage.crown.counts[PROVINCE]; p++) {
                int most = mostLeft(lefts[p]);
                if (most < chosenLeft) {
                    chosen = p;
                    chosenLeft = most;
                }
            }
        }

        private void addFitting(int show) {
            fits[fitting] = show;
            for (int p = 0; p < PROVINCES; p++) {
                lefts[p][fitting] = stage.left[p];
            }
            fitting++;
        }

        private boolean isSo() {
            for (int i = 0; i < rows; i++) {
                if (stage.left[provinces[i]] != stores[i]) {
                    return false;
                }
            }
            return true;
        }

        private int mostLeft(int[] left) {
            int most = 0;
            for (int i = 0; i < fitting; i++) {
                int alike = 0;
                for (int j = 0; j < fitting; j++) {
                    if (left[i] == left[j]) {
                        alike++;
                    }
                }
                most = Math.max(most, alike);
            }
            return most;
        }
    }

    /** Bytes that tell a state of a CROWN. */
    private static final class Image {
        private static final int MOST_BYTES = 6 + 2 * PROVINCES + 4 * TRICKS + WATCHERS + 1;

        final int[] bytes = new int[MOST_BYTES];
        int length = 0;
        /** Where the next number of the tape is read. */
        private int at = 0;

        void write(State state, Crown crown) {
            length = 0;
            put(state.year, 2);
            put(state.debt, 3);
            put(state.belief, 1);
            for (int p = 0; p < crown.counts[PROVINCE]; p++) {
                put(state.stores[p], 2);
            }
            for (int t = 0; t < crown.counts[TRICK]; t++) {
                put(state.shown[t], 2);
                put(state.known[t], 2);
            }
            for (int w = 0; w < crown.counts[WATCHER]; w++) {
                put(state.seats[w], 1);
            }
            int check = 97;
            for (int i = 0; i < length; i++) {
                check = (3 * check + bytes[i]) % 251;
            }
            put(check, 1);
        }

        /** Whether the tape is an image of a state of this CROWN. */
        boolean readable(Text tape, Crown crown) {
            int[] counts = crown.counts;
            int size = 6 + 2 * counts[PROVINCE] + 4 * counts[TRICK] + counts[WATCHER] + 1;
            if (tape.length != size || !isChecked(tape)) {
                return false;
            }
            at = 0;
            boolean good = take(tape, 2) <= LAST_YEAR;
            good &= take(tape, 3) <= MOST_DEBT;
            good &= take(tape, 1) <= MOST_BELIEF;
            for (int p = 0; p < counts[PROVINCE]; p++) {
                good &= take(tape, 2) <= MOST_STORE;
            }
            for (int t = 0; t < counts[TRICK]; t++) {
                good &= take(tape, 2) <= MOST_SHOWN;
                good &= take(tape, 2) <= MOST_KNOWN;
            }
            for (int w = 0; w < counts[WATCHER]; w++) {
                good &= take(tape, 1) < SEATS;
            }
            return good;
        }

        void read(Text tape, Crown crown, State into) {
            at = 0;
            into.keptRows = 0;
            into.year = take(tape, 2);
            into.debt = take(tape, 3);
            into.belief = take(tape, 1);
            for (int p = 0; p < crown.counts[PROVINCE]; p++) {
                into.stores[p] = take(tape, 2);
            }
            for (int t = 0; t < crown.counts[TRICK]; t++) {
                into.shown[t] = take(tape, 2);
                into.known[t] = take(tape, 2);
            }
            for (int w = 0; w < crown.counts[WATCHER]; w++) {
                into.seats[w] = take(tape, 1);
            }
        }

        private void put(int number, int size) {
            for (int shift = 8 * (size - 1); shift >= 0; shift -= 8) {
                if (length < MOST_BYTES) {
                    bytes[length] = number >> shift & 255;
                    length++;
                }
            }
        }

        private int take(Text tape, int size) {
            int number = 0;
            for (int i = 0; i < size; i++) {
                number = number << 8 | tape.byteAt(at);
                at++;
            }
            return number;
        }

        private static boolean isChecked(Text tape) {
            int check = 97;
            for (int i = 0; i < tape.length - 1; i++) {
                check = (3 * check + tape.byteAt(i)) % 251;
            }
            return check == tape.byteAt(tape.length - 1);
        }
    }
}
