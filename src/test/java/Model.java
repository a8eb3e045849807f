import java.util.ArrayDeque;
import java.util.ArrayList;
import java.util.Arrays;
import java.util.Comparator;
import java.util.Deque;
import java.util.HashMap;
import java.util.List;
import java.util.Map;
import java.util.TreeMap;
import java.util.function.Function;
import java.util.function.Predicate;

/**
 * The document a second time, written with other means (exceptions, functions, lists) and without regard to speed,
 * to hold EmptyHat's answers against. Where the document can be read in two ways, both are written from one reading.
 */
final class Model {
    static final class Fault extends RuntimeException {
        private static final long serialVersionUID = 1L;
        final int what;
        final int place;

        Fault(int what, int place) {
            this.what = what;
            this.place = place;
        }
    }

    record Token(char kind, String text, int at, boolean glued) { }

    /** Facts by word; "seen 0" .. "seen 4" for the watchers. */
    interface Facts extends Function<String, Integer> { }

    interface Sum extends Function<Facts, Integer> { }

    static final List<String> OWN = Arrays.asList(("need debt rate stores yields trick takes from look watch seat"
        + " glass sees loses belief boys times year number known sight left seen or and not all min max").split(" "));

    static final class Now {
        int year;
        int debt;
        int belief;
        int[] stores;
        int[] shown;
        int[] known;
        int[] seats;
        List<int[]> kept = new ArrayList<>();

        Now copy() {
            Now c = new Now();
            c.year = year;
            c.debt = debt;
            c.belief = belief;
            c.stores = stores.clone();
            c.shown = shown.clone();
            c.known = known.clone();
            c.seats = seats.clone();
            c.kept = new ArrayList<>(kept);
            return c;
        }
    }

    static final class Rules {
        int need;
        int debt;
        int rate;
        int belief = 50;
        int boys = 0;
        int statements;
        List<List<String>> names = List.of(new ArrayList<>(), new ArrayList<>(), new ArrayList<>());
        List<int[]> provinces = new ArrayList<>();
        List<int[]> tricks = new ArrayList<>();
        List<int[]> watchers = new ArrayList<>();
        Sum sees;
        Sum loses;
    }

    byte[] tape = new byte[0];
    Rules rules = new Rules();
    boolean crowned = false;
    Now now = start(new Rules());
    Deque<Now> past = new ArrayDeque<>();
    List<int[]> counted = new ArrayList<>();
    int[] refused = new int[6];
    int fault = 0;
    int place = -1;
    long seed = 1;
    int[] image = new int[0];

    // ---- the text

    private List<Token> tokens = new ArrayList<>();
    private int at;

    private void tokenize(byte[] t) {
        tokens = new ArrayList<>();
        at = 0;
        int i = 0;
        while (i < t.length) {
            int c = t[i] & 255;
            if (c == 10 || c == 32) {
                i++;
                continue;
            }
            int from = i;
            char kind = kindOf(c);
            i++;
            while (kind != 's' && i < t.length && kindOf(t[i] & 255) == kind) {
                i++;
            }
            StringBuilder b = new StringBuilder();
            for (int k = from; k < i; k++) {
                b.append((char) (t[k] & 255));
            }
            boolean glued = kind != 's' && from > 0 && kindOf(t[from - 1] & 255) != 's';
            tokens.add(new Token(kind, b.toString(), from, glued));
        }
        tokens.add(new Token('e', "", t.length, false));
    }

    private static char kindOf(int c) {
        return c >= 'a' && c <= 'z' ? 'w' : c >= '0' && c <= '9' ? 'n' : 's';
    }

    private Token here() {
        return tokens.get(at);
    }

    private boolean is(String text) {
        return here().text.equals(text) && !here().glued;
    }

    private void want(String text) {
        if (!is(text)) {
            throw new Fault(1, here().at);
        }
        at++;
    }

    private int number(int least, int most) {
        Token t = here();
        if (t.kind != 'n' || t.glued) {
            throw new Fault(1, t.at);
        }
        if (t.text.length() > 4) {
            throw new Fault(1, t.at + 4);
        }
        int n = Integer.parseInt(t.text);
        if (n < least || n > most) {
            throw new Fault(2, t.at);
        }
        at++;
        return n;
    }

    private String name() {
        Token t = here();
        if (t.kind != 'w' || t.glued || OWN.contains(t.text)) {
            throw new Fault(1, t.at);
        }
        if (t.text.length() > 6) {
            throw new Fault(1, t.at + 6);
        }
        return t.text;
    }

    private static int cut(long n) {
        return (int) (n > 1000000 ? 1000000 : n < -1000000 ? -1000000 : n);
    }

    private Sum sum(List<String> parts, int open) {
        Sum left = product(parts, open);
        while (is("+") || is("-")) {
            boolean plus = is("+");
            at++;
            Sum a = left;
            Sum b = product(parts, open);
            left = f -> cut((long) a.apply(f) + (plus ? 1 : -1) * b.apply(f));
        }
        return left;
    }

    private Sum product(List<String> parts, int open) {
        Sum left = part(parts, open);
        while (is("*") || is("/")) {
            boolean mal = is("*");
            at++;
            Sum a = left;
            Sum b = part(parts, open);
            left = f -> mal ? cut((long) a.apply(f) * b.apply(f)) : divide(a.apply(f), b.apply(f));
        }
        return left;
    }

    private static int divide(int a, int b) {
        return b == 0 ? 0 : (int) Math.floor((double) a / b);
    }

    private int deeper(int open) {
        if (open == 6) {
            throw new Fault(4, here().at);
        }
        at++;
        return open + 1;
    }

    private Sum part(List<String> parts, int open) {
        if (here().kind == 'n' && !here().glued) {
            int n = number(0, 9999);
            return f -> n;
        }
        if (is("(")) {
            Sum s = sum(parts, deeper(open));
            want(")");
            return s;
        }
        if (is("min") || is("max")) {
            boolean least = is("min");
            at++;
            if (!is("(")) {
                throw new Fault(1, here().at);
            }
            int in = deeper(open);
            Sum a = sum(parts, in);
            want(",");
            Sum b = sum(parts, in);
            want(")");
            return f -> least ? Math.min(a.apply(f), b.apply(f)) : Math.max(a.apply(f), b.apply(f));
        }
        String word = here().text;
        if (here().glued || !parts.contains(word)) {
            throw new Fault(1, here().at);
        }
        if (word.equals("seen")) {
            Sum p = part(parts, deeper(open));
            return f -> {
                int w = p.apply(f);
                return w >= 0 && w < rules.watchers.size() ? f.apply("seen " + w) : 0;
            };
        }
        at++;
        return f -> f.apply(word);
    }

    private Predicate<Facts> test(List<String> parts, int open) {
        Predicate<Facts> left = all(parts, open);
        while (is("or")) {
            at++;
            left = left.or(all(parts, open));
        }
        return left;
    }

    private Predicate<Facts> all(List<String> parts, int open) {
        Predicate<Facts> left = one(parts, open);
        while (is("and")) {
            at++;
            left = left.and(one(parts, open));
        }
        return left;
    }

    private Predicate<Facts> one(List<String> parts, int open) {
        if (is("not")) {
            return one(parts, deeper(open)).negate();
        }
        if (is("[")) {
            Predicate<Facts> t = test(parts, deeper(open));
            want("]");
            return t;
        }
        if (is("all")) {
            at++;
            return f -> true;
        }
        Sum a = sum(parts, open);
        String sign = here().text;
        if (!sign.equals("<") && !sign.equals(">") && !sign.equals("=")) {
            throw new Fault(1, here().at);
        }
        at++;
        Sum b = sum(parts, open);
        return f -> sign.equals("<") ? a.apply(f) < b.apply(f)
            : sign.equals(">") ? a.apply(f) > b.apply(f) : a.apply(f).intValue() == b.apply(f).intValue();
    }

    private Rules readCrown(byte[] t) {
        tokenize(t);
        Rules r = new Rules();
        want("need");
        r.need = number(0, 9999);
        want("debt");
        r.debt = number(0, 9999);
        want("rate");
        r.rate = number(0, 99);
        want(";");
        r.statements = 1;
        while (here().kind != 'e') {
            if (r.statements == 60) {
                throw new Fault(5, here().at);
            }
            statement(r);
            want(";");
            r.statements++;
        }
        if (r.sees == null) {
            r.sees = f -> f.apply("glass");
        }
        if (r.loses == null) {
            r.loses = f -> 10;
        }
        return r;
    }

    private String newName(Rules r, int kind, int most) {
        if (r.names.get(kind).size() == most) {
            throw new Fault(5, here().at);
        }
        at++;
        String name = name();
        for (List<String> row : r.names) {
            if (row.contains(name)) {
                throw new Fault(3, here().at);
            }
        }
        at++;
        return name;
    }

    private void statement(Rules r) {
        String word = here().text;
        int from = here().at;
        switch (word) {
            case "stores": {
                String name = newName(r, 0, 6);
                int store = number(0, 9999);
                want("yields");
                r.provinces.add(new int[] {store, number(0, 999)});
                r.names.get(0).add(name);
                break;
            }
            case "trick": {
                String name = newName(r, 1, 6);
                want("takes");
                int takes = number(1, 999);
                want("from");
                int p = r.names.get(0).indexOf(name());
                if (p < 0) {
                    throw new Fault(3, here().at);
                }
                at++;
                want("look");
                r.tricks.add(new int[] {takes, p, number(0, 9)});
                r.names.get(1).add(name);
                break;
            }
            case "watch": {
                String name = newName(r, 2, 5);
                want("seat");
                int seat = number(0, 9);
                want("glass");
                r.watchers.add(new int[] {seat, number(0, 9)});
                r.names.get(2).add(name);
                break;
            }
            case "sees":
                if (r.sees != null) {
                    throw new Fault(5, from);
                }
                at++;
                r.sees = sum(List.of("look", "times", "year", "seat", "glass"), 0);
                break;
            case "loses":
                if (r.loses != null) {
                    throw new Fault(5, from);
                }
                at++;
                r.loses = sum(List.of("look", "times", "year", "takes", "belief"), 0);
                break;
            case "belief":
                at++;
                r.belief = number(1, 100);
                break;
            case "boys":
                at++;
                r.boys = number(0, 100);
                break;
            default:
                throw new Fault(1, from);
        }
    }

    // ---- the years

    static Now start(Rules r) {
        Now n = new Now();
        n.debt = r.debt;
        n.stores = r.provinces.stream().mapToInt(p -> p[0]).toArray();
        n.shown = new int[r.tricks.size()];
        n.known = new int[r.tricks.size()];
        n.seats = r.watchers.stream().mapToInt(w -> w[0]).toArray();
        return n;
    }

    int sightAt(Now n, int t, int w, int seat) {
        Facts f = word -> switch (word) {
            case "look" -> rules.tricks.get(t)[2];
            case "times" -> n.shown[t];
            case "year" -> n.year;
            case "seat" -> seat;
            default -> rules.watchers.get(w)[1];
        };
        return Math.min(99, Math.max(0, rules.sees.apply(f)));
    }

    int sightOf(Now n, int t) {
        int all = 0;
        for (int w = 0; w < n.seats.length; w++) {
            all += sightAt(n, t, w, n.seats[w]);
        }
        return all;
    }

    boolean possible(Now n, int show) {
        if (show < 0 || show >= 1 << n.known.length || n.belief == 0 && show != 0) {
            return false;
        }
        for (int t : members(show)) {
            if (n.known[t] >= 100) {
                return false;
            }
        }
        return true;
    }

    static List<Integer> members(int set) {
        List<Integer> row = new ArrayList<>();
        for (int i = 0; i < 31; i++) {
            if ((set & 1 << i) != 0) {
                row.add(i);
            }
        }
        return row;
    }

    List<Integer> possibleShows(Now n) {
        List<Integer> row = new ArrayList<>();
        for (int s = 0; s < 1 << n.known.length; s++) {
            if (possible(n, s)) {
                row.add(s);
            }
        }
        return row;
    }

    Now ripe(Now n) {
        Now r = n.copy();
        for (int p = 0; p < r.stores.length; p++) {
            r.stores[p] = Math.min(9999, r.stores[p] + rules.provinces.get(p)[1]);
        }
        return r;
    }

    /** What appears; the stores of n become less. */
    int take(Now n, int show) {
        int all = 0;
        for (int t : members(show)) {
            int[] trick = rules.tricks.get(t);
            int got = Math.min(trick[0], n.stores[trick[1]]);
            n.stores[trick[1]] -= got;
            all += got;
        }
        return all;
    }

    int togetherSight(Now n, int show) {
        return members(show).stream().mapToInt(t -> sightOf(n, t)).sum();
    }

    int bestShow(Now ripe) {
        List<Integer> row = possibleShows(ripe);
        Map<Integer, Integer> got = new HashMap<>();
        row.forEach(s -> got.put(s, take(ripe.copy(), s)));
        List<Integer> enough = new ArrayList<>(row);
        enough.removeIf(s -> got.get(s) < rules.need);
        Comparator<Integer> quiet = Comparator.<Integer>comparingInt(s -> togetherSight(ripe, s))
            .thenComparingInt(Integer::bitCount).thenComparingInt(s -> s);
        if (!enough.isEmpty()) {
            return enough.stream().min(quiet).get();
        }
        return row.stream().min(Comparator.<Integer>comparingInt(s -> -got.get(s)).thenComparing(quiet)).get();
    }

    /** A year with a show (the best one, when it is below 0): the state behind it; last holds what appeared. */
    int last;

    Now year(Now before, int told) {
        Now n = ripe(before);
        int show = told < 0 ? bestShow(n) : told;
        int[] more = new int[n.known.length];
        for (int t : members(show)) {
            more[t] = sightOf(n, t);
        }
        last = take(n, show);
        for (int t : members(show)) {
            n.known[t] = Math.min(999, n.known[t] + more[t]);
            n.shown[t] = Math.min(9999, n.shown[t] + 1);
        }
        for (int t : members(show)) {
            if (n.known[t] >= 100) {
                int lost = rules.loses.apply(word -> switch (word) {
                    case "look" -> rules.tricks.get(t)[2];
                    case "times" -> n.shown[t];
                    case "year" -> n.year;
                    case "takes" -> rules.tricks.get(t)[0];
                    default -> n.belief;
                });
                n.belief = Math.max(0, n.belief - Math.max(0, lost));
                n.kept.add(new int[] {n.year, t, n.belief});
                while (n.kept.size() > 30) {
                    n.kept.remove(0);
                }
            }
        }
        if (last >= rules.need) {
            n.debt = Math.max(0, n.debt - (last - rules.need));
        } else {
            n.debt += rules.need - last;
        }
        n.debt = Math.min(99999, n.debt + Math.floorDiv(n.debt * rules.rate, 100));
        n.year++;
        return n;
    }

    Now aheadBy(int n) {
        Now a = now;
        for (int i = 0; i < n; i++) {
            a = year(a, -1);
        }
        return a;
    }

    boolean canLook(int n) {
        return crowned && n >= 0 && n <= 60 && now.year + n <= 999;
    }

    static int through(Now n) {
        int bits = 0;
        for (int t = 0; t < n.known.length; t++) {
            bits |= n.known[t] >= 100 ? 1 << t : 0;
        }
        return bits;
    }

    static int coin(Now n) {
        return Arrays.stream(n.stores).sum();
    }

    private int no(int by) {
        refused[by]++;
        return -1;
    }

    private byte[] goes() {
        byte[] t = tape;
        tape = new byte[0];
        return t;
    }

    private void act(Now next) {
        past.addLast(now);
        if (past.size() > 20) {
            past.removeFirst();
        }
        now = next;
    }

    // ---- the calls, a boolean as 1 or 0

    int feed(int... five) {
        if (tape.length + 20 > 1600) {
            return no(0);
        }
        int from = tape.length;
        tape = Arrays.copyOf(tape, from + 20);
        for (int i = 0; i < 20; i++) {
            tape[from + i] = (byte) (five[i / 4] >>> 24 - 8 * (i % 4));
        }
        return tape.length;
    }

    int end(int n) {
        if (n < 0 || n > tape.length) {
            return no(0) + 1;
        }
        tape = Arrays.copyOf(tape, n);
        return 1;
    }

    int crown() {
        fault = 0;
        place = -1;
        Rules read;
        try {
            read = readCrown(goes());
        } catch (Fault f) {
            fault = f.what;
            place = f.place;
            return no(1);
        }
        rules = read;
        crowned = true;
        now = start(rules);
        now.belief = rules.belief;
        past.clear();
        counted.clear();
        return rules.statements;
    }

    int fault(int what) {
        return what == 0 ? fault : what == 1 ? place : -1;
    }

    int has(int what) {
        int[] row = {rules.provinces.size(), rules.tricks.size(), rules.watchers.size(), now.year, now.debt,
            now.belief, Integer.bitCount(through(now)), coin(now), now.kept.size(), counted.size(), past.size()};
        return what >= 0 && what < row.length ? row[what] : -1;
    }

    int letter(int kind, int which, int k) {
        if (kind < 0 || kind > 2 || which < 0 || which >= rules.names.get(kind).size() || k < 0 || k > 5) {
            return -1;
        }
        String name = rules.names.get(kind).get(which);
        return k < name.length() ? name.charAt(k) - 'a' + 1 : 0;
    }

    int province(int p, int what) {
        if (p < 0 || p >= now.stores.length || what < 0 || what > 2) {
            return -1;
        }
        if (what < 2) {
            return what == 0 ? now.stores[p] : rules.provinces.get(p)[1];
        }
        int bits = 0;
        for (int t = 0; t < rules.tricks.size(); t++) {
            bits |= rules.tricks.get(t)[1] == p ? 1 << t : 0;
        }
        return bits;
    }

    int trick(int t, int what) {
        if (t < 0 || t >= now.known.length || what < 0 || what > 5) {
            return -1;
        }
        return what < 3 ? rules.tricks.get(t)[what] : what == 3 ? now.shown[t] : what == 4 ? now.known[t]
            : sightOf(now, t);
    }

    int allSeen(int w, int seat) {
        int all = 0;
        for (int t = 0; t < now.known.length; t++) {
            all += sightAt(now, t, w, seat);
        }
        return all;
    }

    int watcher(int w, int what) {
        if (w < 0 || w >= now.seats.length || what < 0 || what > 2) {
            return -1;
        }
        return what == 0 ? now.seats[w] : what == 1 ? rules.watchers.get(w)[1] : allSeen(w, now.seats[w]);
    }

    int sight(int t, int w) {
        boolean there = t >= 0 && t < now.known.length && w >= 0 && w < now.seats.length;
        return there ? sightAt(now, t, w, now.seats[w]) : -1;
    }

    int kept(int k, int what) {
        return k < 0 || k >= now.kept.size() || what < 0 || what > 2 ? -1 : now.kept.get(k)[what];
    }

    int best(int what) {
        if (!crowned || what < 0 || what > 2) {
            return -1;
        }
        Now ripe = ripe(now);
        int show = bestShow(ripe);
        return what == 0 ? show : what == 1 ? take(ripe, show) : togetherSight(ripe, show);
    }

    int appears(int show) {
        return crowned && possible(now, show) ? take(ripe(now), show) : -1;
    }

    int later(int n, int what) {
        if (!canLook(n) || what < 0 || what > 3) {
            return -1;
        }
        Now a = aheadBy(n);
        return what == 0 ? a.debt : what == 1 ? a.belief : what == 2 ? through(a) : coin(a);
    }

    int curtain() {
        Now a = now;
        for (int n = 0; canLook(n); n++) {
            if (a.belief == 0) {
                return n;
            }
            a = year(a, -1);
        }
        return -1;
    }

    int both(int what) {
        if (!crowned || what < 0 || what > 3 || now.year > 997) {
            return -1;
        }
        int[] found = null;
        for (int first : possibleShows(now)) {
            Now one = year(now, first);
            for (int second : possibleShows(one)) {
                Now two = year(one, second);
                if (found == null || two.debt < found[2] || two.debt == found[2] && two.belief > found[3]) {
                    found = new int[] {first, second, two.debt, two.belief};
                }
            }
        }
        return found[what];
    }

    int drop(int n) {
        if (!canLook(n)) {
            return -1;
        }
        int found = 0;
        int most = Integer.MIN_VALUE;
        Now a = now;
        for (int i = 0; i <= n; i++) {
            if (100 * a.belief - a.debt > most) {
                most = 100 * a.belief - a.debt;
                found = i;
            }
            a = i < n ? year(a, -1) : a;
        }
        return found;
    }

    int count() {
        byte[] t = goes();
        if (t.length == 0 || t.length > 48 || t.length % 3 != 0) {
            return no(1);
        }
        List<int[]> rows = new ArrayList<>();
        for (int i = 0; i < t.length; i += 3) {
            if ((t[i] & 255) >= now.stores.length) {
                return no(1);
            }
            rows.add(new int[] {t[i], (t[i + 1] & 255) * 256 + (t[i + 2] & 255)});
        }
        counted = rows;
        return rows.size();
    }

    private List<Integer> fitting() {
        List<Integer> row = possibleShows(now);
        row.removeIf(s -> {
            Now n = ripe(now);
            take(n, s);
            return counted.stream().anyMatch(c -> n.stores[c[0]] != c[1]);
        });
        return row;
    }

    int shows(int what) {
        if (!crowned || what < 0 || what > 2 || now.year > 998) {
            return -1;
        }
        List<Integer> row = fitting();
        if (what == 0 || row.isEmpty()) {
            return row.size();
        }
        return row.stream().reduce((a, b) -> what == 1 ? a & b : a | b).get();
    }

    int where(int what) {
        if (!crowned || what < 0 || what > 1 || now.year > 998 || now.stores.length == 0 || fitting().isEmpty()) {
            return -1;
        }
        int found = -1;
        int least = Integer.MAX_VALUE;
        for (int p = 0; p < now.stores.length; p++) {
            Map<Integer, Integer> groups = new TreeMap<>();
            for (int s : fitting()) {
                Now n = ripe(now);
                take(n, s);
                groups.merge(n.stores[p], 1, Integer::sum);
            }
            int most = groups.values().stream().max(Integer::compare).get();
            if (most < least) {
                least = most;
                found = p;
            }
        }
        return what == 0 ? found : least;
    }

    int watch(int least) {
        if (!crowned || least < 0 || least > 99) {
            return -1;
        }
        int found = -1;
        for (int set = 0; set < 1 << now.seats.length; set++) {
            boolean all = true;
            for (int t = 0; t < now.known.length; t++) {
                int trick = t;
                all &= members(set).stream().anyMatch(w -> sight(trick, w) >= least);
            }
            if (all && (found < 0 || Integer.bitCount(set) < Integer.bitCount(found))) {
                found = set;
            }
        }
        return found;
    }

    int seat(int w) {
        if (w < 0 || w >= now.seats.length) {
            return -1;
        }
        int found = 0;
        for (int s = 1; s < 10; s++) {
            found = allSeen(w, s) > allSeen(w, found) ? s : found;
        }
        return found;
    }

    int show(int show) {
        if (!crowned || !possible(now, show) || now.year > 998) {
            return no(2);
        }
        act(year(now, show));
        return last;
    }

    int sit(int w, int seat) {
        if (w < 0 || w >= now.seats.length || seat < 0 || seat > 9 || now.seats[w] == seat) {
            return no(2) + 1;
        }
        Now n = now.copy();
        n.seats[w] = seat;
        act(n);
        return 1;
    }

    int move(int from, int to, int coin) {
        int p = now.stores.length;
        if (from < 0 || from >= p || to < 0 || to >= p || from == to || coin < 1 || coin > 9999
            || now.stores[from] < coin || now.stores[to] + coin > 9999) {
            return no(2) + 1;
        }
        Now n = now.copy();
        n.stores[from] -= coin;
        n.stores[to] += coin;
        act(n);
        return 1;
    }

    int years(int n) {
        if (!crowned || n < 1 || n > 100 || now.year + n > 999) {
            return no(3);
        }
        int enough = 0;
        Now a = now;
        for (int i = 0; i < n; i++) {
            a = year(a, -1);
            enough += last >= rules.need ? 1 : 0;
        }
        act(a);
        return enough;
    }

    private int draw(int m) {
        seed = (1103515245L * seed + 12345) % (1L << 31);
        return (int) (seed / 64 % m);
    }

    int chance(int n) {
        if (!crowned || n < 1 || n > 100 || now.year + n > 999) {
            return no(3);
        }
        int boys = 0;
        Now a = now.copy();
        for (int i = 0; i < n; i++) {
            if (draw(100) < rules.boys && a.known.length > 0) {
                int t = draw(a.known.length);
                a.known[t] = Math.min(999, a.known[t] + 50);
                boys++;
            }
            a = year(a, -1);
        }
        act(a);
        return boys;
    }

    int undo() {
        if (past.isEmpty()) {
            return no(4) + 1;
        }
        now = past.removeLast();
        return 1;
    }

    int seed(int s) {
        if (s < 0) {
            return no(5) + 1;
        }
        seed = s;
        return 1;
    }

    long ask() {
        byte[] t = goes();
        if (!crowned) {
            return EmptyHat.NOTHING;
        }
        fault = 0;
        place = -1;
        try {
            return answer(t);
        } catch (Fault f) {
            fault = f.what;
            place = f.place;
            return EmptyHat.NOTHING;
        }
    }

    private long answer(byte[] text) {
        tokenize(text);
        String verb = here().text;
        List<String> parts = List.of("number", "takes", "look", "times", "known", "sight", "left", "year", "seen");
        boolean tests = List.of("first", "last", "often").contains(verb);
        if (!tests && !List.of("total", "most", "least").contains(verb)) {
            throw new Fault(1, here().at);
        }
        at++;
        Predicate<Facts> test = tests ? test(parts, 0) : null;
        Sum sum = tests ? null : sum(parts, 0);
        if (here().kind != 'e') {
            throw new Fault(1, here().at);
        }
        List<Integer> held = new ArrayList<>();
        List<Integer> sums = new ArrayList<>();
        for (int t = 0; t < now.known.length; t++) {
            if (tests && test.test(factsOf(t))) {
                held.add(t);
            } else if (!tests) {
                sums.add(sum.apply(factsOf(t)));
            }
        }
        return switch (verb) {
            case "first" -> held.isEmpty() ? -1 : held.get(0);
            case "last" -> held.isEmpty() ? -1 : held.get(held.size() - 1);
            case "often" -> held.size();
            case "total" -> sums.stream().mapToLong(Integer::longValue).sum();
            case "most" -> sums.stream().max(Integer::compare).orElse(0);
            default -> sums.stream().min(Integer::compare).orElse(0);
        };
    }

    private Facts factsOf(int t) {
        return word -> switch (word) {
            case "number" -> t;
            case "takes" -> rules.tricks.get(t)[0];
            case "look" -> rules.tricks.get(t)[2];
            case "times" -> now.shown[t];
            case "known" -> now.known[t];
            case "sight" -> sightOf(now, t);
            case "left" -> now.stores[rules.tricks.get(t)[1]];
            case "year" -> now.year;
            default -> sight(t, Integer.parseInt(word.substring(5)));
        };
    }

    int image() {
        List<Integer> b = new ArrayList<>();
        both(b, now.year);
        b.add(now.debt / 65536);
        both(b, now.debt % 65536);
        b.add(now.belief);
        for (int s : now.stores) {
            both(b, s);
        }
        for (int t = 0; t < now.known.length; t++) {
            both(b, now.shown[t]);
            both(b, now.known[t]);
        }
        for (int s : now.seats) {
            b.add(s);
        }
        b.add(check(b));
        image = b.stream().mapToInt(i -> i).toArray();
        return image.length;
    }

    private static void both(List<Integer> b, int n) {
        b.add(n / 256);
        b.add(n % 256);
    }

    static int check(List<Integer> ahead) {
        int c = 97;
        for (int b : ahead) {
            c = (3 * c + b) % 251;
        }
        return c;
    }

    int octet(int k) {
        return k >= 0 && k < image.length ? image[k] : -1;
    }

    int on() {
        byte[] t = goes();
        int p = now.stores.length;
        int k = now.known.length;
        int w = now.seats.length;
        if (!crowned || t.length != 7 + 2 * p + 4 * k + w) {
            return no(5) + 1;
        }
        List<Integer> b = new ArrayList<>();
        for (byte one : t) {
            b.add(one & 255);
        }
        int last = b.remove(b.size() - 1);
        Now n = now.copy();
        n.kept.clear();
        n.year = b.get(0) * 256 + b.get(1);
        n.debt = b.get(2) * 65536 + b.get(3) * 256 + b.get(4);
        n.belief = b.get(5);
        boolean good = last == check(b) && n.year <= 999 && n.debt <= 99999 && n.belief <= 100;
        int from = 6;
        for (int i = 0; i < p; i++, from += 2) {
            n.stores[i] = b.get(from) * 256 + b.get(from + 1);
            good &= n.stores[i] <= 9999;
        }
        for (int i = 0; i < k; i++, from += 4) {
            n.shown[i] = b.get(from) * 256 + b.get(from + 1);
            n.known[i] = b.get(from + 2) * 256 + b.get(from + 3);
            good &= n.shown[i] <= 9999 && n.known[i] <= 999;
        }
        for (int i = 0; i < w; i++, from++) {
            n.seats[i] = b.get(from);
            good &= n.seats[i] <= 9;
        }
        if (!good) {
            return no(5) + 1;
        }
        now = n;
        past.clear();
        return 1;
    }

    int status(int what) {
        return what >= 0 && what < 6 ? refused[what] : -1;
    }
}
