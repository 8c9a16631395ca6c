import java.util.ArrayDeque;
import java.util.ArrayList;
import java.util.Arrays;
import java.util.HashMap;
import java.util.LinkedHashMap;
import java.util.List;
import java.util.Map;
import java.util.TreeMap;
import java.util.TreeSet;
import java.util.function.IntPredicate;

/** The document told once more, with the Java library and without regard to speed: what OracleTest compares with. */
public final class Oracle {
    static final int NONE = -1;
    static final int[] MOST = {40, 8, 16, 8};

    static final class Fault extends RuntimeException {
        private static final long serialVersionUID = 1;

        final int value;

        Fault(int place, int kind) {
            value = 1 + 8 * place + kind;
        }
    }

    static final class Turn {
        int person;
        IntPredicate test = s -> true;
    }

    static final class Text {
        List<IntPredicate> tests = new ArrayList<>();
        int rights;
        int ends;
        int days;
        int fee;
        TreeSet<Integer> lenders = new TreeSet<>();
        List<Turn> turns = new ArrayList<>();
    }

    static final class Roll {
        int gift;
        int year;
        List<Integer> moves = new ArrayList<>();

        Roll copy() {
            Roll r = new Roll();
            r.gift = gift;
            r.year = year;
            r.moves.addAll(moves);
            return r;
        }
    }

    static final class Search {
        int gift;
        int wish;
        int year;
        int status;
        int gone;
        int limit;
        List<Integer> met = new ArrayList<>();
        Map<Integer, int[]> from = new HashMap<>();
        int found;

        Search copy() {
            Search s = new Search();
            s.gift = gift;
            s.wish = wish;
            s.year = year;
            s.status = status;
            s.gone = gone;
            s.limit = limit;
            s.met.addAll(met);
            s.from.putAll(from);
            s.found = found;
            return s;
        }
    }

    static final class World {
        List<List<Text>> texts = new ArrayList<>();
        List<int[]> years = new ArrayList<>();
        int force;
        Map<Integer, Integer> holders = new TreeMap<>();
        List<Roll> rolls = new ArrayList<>();
        Search search;

        World() {
            for (int i = 0; i < 4; i++) {
                texts.add(new ArrayList<>());
            }
        }

        World copy() {
            World w = new World();
            for (int i = 0; i < 4; i++) {
                w.texts.get(i).addAll(texts.get(i));
            }
            for (int[] y : years) {
                w.years.add(y.clone());
            }
            w.force = force;
            w.holders.putAll(holders);
            for (Roll r : rolls) {
                w.rolls.add(r.copy());
            }
            w.search = search == null ? null : search.copy();
            return w;
        }
    }

    /** Reads a text token by token; places are where tokens begin. */
    static final class Reader {
        final List<String> tokens = new ArrayList<>();
        final List<Integer> places = new ArrayList<>();
        int at;
        int facts;

        Reader(int[] bytes) {
            int i = 0;
            while (i < bytes.length) {
                if (bytes[i] == 32) {
                    i++;
                    continue;
                }
                int j = i + 1;
                char c = (char) bytes[i];
                if (Character.toString(c).matches("[a-z]")) {
                    while (j < bytes.length && bytes[j] >= 'a' && bytes[j] <= 'z') {
                        j++;
                    }
                } else if (Character.toString(c).matches("[0-9]")) {
                    while (j < bytes.length && bytes[j] >= '0' && bytes[j] <= '9') {
                        j++;
                    }
                } else if ((c == '<' || c == '>') && j < bytes.length && bytes[j] == '=') {
                    j++;
                }
                StringBuilder b = new StringBuilder();
                for (int k = i; k < j; k++) {
                    b.append((char) bytes[k]);
                }
                tokens.add(b.toString());
                places.add(i);
                i = j;
            }
            tokens.add("");
            places.add(bytes.length);
        }

        String token() {
            return tokens.get(at);
        }

        Fault fault(int kind) {
            return new Fault(places.get(at), kind);
        }

        boolean take(String t) {
            if (!token().equals(t)) {
                return false;
            }
            at++;
            return true;
        }

        int number(int most) {
            String t = token();
            if (!t.matches("[0-9]+")) {
                throw fault(0);
            }
            if (t.length() > 5 || Integer.parseInt(t) > most) {
                throw fault(1);
            }
            at++;
            return Integer.parseInt(t);
        }

        int rights() {
            if (!token().matches("[A-X]")) {
                throw fault(0);
            }
            int set = 0;
            while (token().matches("[A-X]")) {
                set |= 1 << (token().charAt(0) - 'A');
                at++;
            }
            return set;
        }

        IntPredicate test(int depth) {
            IntPredicate p = part(depth);
            while (take("or")) {
                p = p.or(part(depth));
            }
            return p;
        }

        IntPredicate part(int depth) {
            IntPredicate p = fact(depth);
            while (take("and")) {
                p = p.and(fact(depth));
            }
            return p;
        }

        IntPredicate fact(int depth) {
            String t = token();
            if (t.equals("not") || t.equals("[")) {
                if (depth == 10) {
                    throw fault(2);
                }
                at++;
                if (t.equals("not")) {
                    return fact(depth + 1).negate();
                }
                IntPredicate p = test(depth + 1);
                if (!take("]")) {
                    throw fault(0);
                }
                return p;
            }
            if (!t.equals("of") && !t.matches("[A-X]")) {
                throw fault(0);
            }
            facts++;
            if (facts > 60) {
                throw fault(3);
            }
            at++;
            if (t.equals("of")) {
                return counted();
            }
            int bit = t.charAt(0) - 'A';
            return s -> (s >> bit & 1) == 1;
        }

        IntPredicate counted() {
            int set = rights();
            String sign = token();
            if (!Arrays.asList("<", "<=", "=", ">=", ">").contains(sign)) {
                throw fault(0);
            }
            at++;
            int n = number(24);
            switch (sign) {
                case "<": return s -> Integer.bitCount(s & set) < n;
                case "<=": return s -> Integer.bitCount(s & set) <= n;
                case "=": return s -> Integer.bitCount(s & set) == n;
                case ">=": return s -> Integer.bitCount(s & set) >= n;
                default: return s -> Integer.bitCount(s & set) > n;
            }
        }

        Text text(int sort) {
            Text x = new Text();
            if (sort >= 2) {
                x.tests.add(test(0));
            } else {
                List<String> words = sort == 0
                        ? Arrays.asList("need", "give", "end", "days", "fee", "lend", "turn")
                        : Arrays.asList("have", "stop");
                List<String> seen = new ArrayList<>();
                do {
                    String word = token();
                    if (!words.contains(word)) {
                        throw fault(0);
                    }
                    if (seen.size() == 12 || seen.contains(word) && (word.equals("days") || word.equals("fee"))) {
                        throw fault(4);
                    }
                    seen.add(word);
                    at++;
                    clause(x, word);
                } while (take(";"));
            }
            if (at != tokens.size() - 1) {
                throw fault(0);
            }
            return x;
        }

        void clause(Text x, String word) {
            switch (word) {
                case "need":
                case "stop": x.tests.add(test(0)); break;
                case "give":
                case "have": x.rights |= rights(); break;
                case "end": x.ends |= rights(); break;
                case "days": x.days = number(999); break;
                case "fee": x.fee = number(9999); break;
                case "lend": x.lenders.add(number(15)); break;
                default:
                    Turn t = new Turn();
                    t.person = number(15);
                    if (take("if")) {
                        t.test = test(0);
                    }
                    x.turns.add(t);
            }
        }
    }

    private List<Integer> tape = new ArrayList<>();
    private World w = new World();
    private final World[] marks = new World[4];

    public int feed(int a, int b, int c, int d, int e) {
        if (tape.size() > 380) {
            return NONE;
        }
        for (int n : new int[] {a, b, c, d, e}) {
            tape.add(n >>> 24);
            tape.add(n >>> 16 & 255);
            tape.add(n >>> 8 & 255);
            tape.add(n & 255);
        }
        return tape.size();
    }

    public int end(int n) {
        if (n < 0 || n > tape.size()) {
            return NONE;
        }
        tape = new ArrayList<>(tape.subList(0, n));
        return n;
    }

    public int text(int sort) {
        if (sort < 0 || sort > 3 || w.texts.get(sort).size() == MOST[sort]) {
            return NONE;
        }
        int[] bytes = tape.stream().mapToInt(i -> i).toArray();
        tape.clear();
        try {
            w.texts.get(sort).add(new Reader(bytes).text(sort));
        } catch (Fault f) {
            return -2 - f.value;
        }
        if (sort == 0) {
            w.years.add(new int[] {0, 2999});
        }
        return w.texts.get(sort).size() - 1;
    }

    private boolean has(int sort, int n) {
        return n >= 0 && n < w.texts.get(sort).size();
    }

    private Text get(int sort, int n) {
        return w.texts.get(sort).get(n);
    }

    private static boolean year(int y) {
        return y >= 0 && y <= 2999;
    }

    private static boolean state(int s) {
        return s >= 0 && s < 1 << 24;
    }

    public boolean open(int move, int from, int to) {
        if (!has(0, move) || !year(from) || !year(to) || from > to) {
            return false;
        }
        w.years.set(move, new int[] {from, to});
        return true;
    }

    public int force(int set) {
        if (set < 0 || set > 255 || set >> w.texts.get(3).size() != 0) {
            return NONE;
        }
        int was = w.force;
        w.force = set;
        return was;
    }

    public int holds(int right, int person) {
        if (right < 0 || right > 23 || person < -1 || person > 15) {
            return -2;
        }
        Integer was = w.holders.put(right, person);
        return was == null ? NONE : was;
    }

    public int first(int gift) {
        return has(1, gift) ? get(1, gift).rights : NONE;
    }

    private boolean wish(int wish, int state) {
        return get(2, wish).tests.get(0).test(state);
    }

    public int wished(int wish, int state) {
        return !has(2, wish) || !state(state) ? NONE : wish(wish, state) ? 1 : 0;
    }

    private boolean can(int gift, int year, int move, int state, int force) {
        int[] y = w.years.get(move);
        if (year < y[0] || year > y[1]) {
            return false;
        }
        for (IntPredicate need : get(0, move).tests) {
            if (!need.test(state)) {
                return false;
            }
        }
        int next = next(move, state);
        if (next == state) {
            return false;
        }
        for (IntPredicate stop : get(1, gift).tests) {
            if (stop.test(next)) {
                return false;
            }
        }
        for (int i = 0; i < w.texts.get(3).size(); i++) {
            if ((force >> i & 1) == 1 && get(3, i).tests.get(0).test(next)) {
                return false;
            }
        }
        return true;
    }

    private int next(int move, int state) {
        Text m = get(0, move);
        return (state & ~m.ends) | m.rights;
    }

    private int turners(int move, int state) {
        int set = 0;
        for (Turn t : get(0, move).turns) {
            if (t.test.test(state)) {
                set |= 1 << t.person;
            }
        }
        return set;
    }

    public int may(int gift, int year, int move, int state) {
        if (!has(1, gift) || !year(year) || !has(0, move) || !state(state)) {
            return NONE;
        }
        return can(gift, year, move, state, w.force) ? 1 : 0;
    }

    public int after(int move, int state) {
        return !has(0, move) || !state(state) ? NONE : next(move, state);
    }

    public int turned(int move, int state) {
        return !has(0, move) || !state(state) ? NONE : turners(move, state);
    }

    interface Filter {
        boolean allows(int move, int state);
    }

    private Search begun(int gift, int wish, int year, int state, int limit) {
        Search s = new Search();
        s.gift = gift;
        s.wish = wish;
        s.year = year;
        s.limit = limit;
        s.status = 1;
        s.met.add(state);
        s.from.put(state, null);
        if (wish(wish, state)) {
            s.status = 2;
            s.found = state;
        }
        return s;
    }

    private void step(Search s, int force, Filter filter) {
        int state = s.met.get(s.gone);
        s.gone++;
        for (int m = 0; m < w.texts.get(0).size(); m++) {
            if (!filter.allows(m, state) || !can(s.gift, s.year, m, state, force)) {
                continue;
            }
            int next = next(m, state);
            if (s.from.containsKey(next)) {
                continue;
            }
            if (s.met.size() == s.limit) {
                s.status = 4;
                return;
            }
            s.met.add(next);
            s.from.put(next, new int[] {state, m});
            if (wish(s.wish, next)) {
                s.status = 2;
                s.found = next;
                return;
            }
        }
        if (s.gone == s.met.size()) {
            s.status = 3;
        }
    }

    private List<Integer> rowOf(Search s) {
        List<Integer> row = new ArrayList<>();
        for (int[] f = s.from.get(s.found); f != null; f = s.from.get(f[0])) {
            row.add(0, f[1]);
        }
        return row;
    }

    private Search whole(int gift, int wish, int year, int force, Filter filter) {
        Search s = begun(gift, wish, year, get(1, gift).rights, 500);
        while (s.status == 1) {
            step(s, force, filter);
        }
        return s;
    }

    private boolean three(int gift, int wish, int year) {
        return has(1, gift) && has(2, wish) && year(year);
    }

    public boolean search(int gift, int wish, int year, int state) {
        if (!three(gift, wish, year) || state != NONE && !state(state)) {
            return false;
        }
        w.search = begun(gift, wish, year, state == NONE ? get(1, gift).rights : state, 4000);
        return true;
    }

    public int go(int n) {
        if (n < 1 || n > 4000 || w.search == null) {
            return NONE;
        }
        int k = 0;
        while (k < n && w.search.status == 1) {
            step(w.search, w.force, (m, s) -> true);
            k++;
        }
        return k;
    }

    public int sought(int what) {
        Search s = w.search;
        switch (what) {
            case 0: return s == null ? 0 : s.status;
            case 1: return s == null ? 0 : s.met.size();
            case 2: return s == null ? 0 : s.gone;
            case 3: return s == null || s.status != 2 ? NONE : rowOf(s).size();
            default: return NONE;
        }
    }

    public int row(int k) {
        if (w.search == null || w.search.status != 2 || k < 0 || k >= rowOf(w.search).size()) {
            return NONE;
        }
        return rowOf(w.search).get(k);
    }

    public int met(int k) {
        return w.search == null || k < 0 || k >= w.search.met.size() ? NONE : w.search.met.get(k);
    }

    public int reached(int gift, int wish, int year) {
        return three(gift, wish, year) ? whole(gift, wish, year, w.force, (m, s) -> true).status : NONE;
    }

    public int fewest(int gift, int wish, int year, int what) {
        if (!three(gift, wish, year) || what < 0 || what > 1) {
            return NONE;
        }
        int names = 0;
        for (Text m : w.texts.get(0)) {
            for (int p : m.lenders) {
                names |= 1 << p;
            }
        }
        if (Integer.bitCount(names) > 10) {
            return -3;
        }
        int best = -2;
        for (int set = 0; set < 1 << 16; set++) {
            if ((set & ~names) != 0 || best != -2 && Integer.bitCount(set) >= Integer.bitCount(best)) {
                continue;
            }
            int lent = set;
            Filter f = (m, s) -> {
                for (int p : get(0, m).lenders) {
                    if ((lent >> p & 1) == 0) {
                        return false;
                    }
                }
                return true;
            };
            if (whole(gift, wish, year, w.force, f).status == 2) {
                best = set;
            }
        }
        return best == -2 || what == 1 ? best : Integer.bitCount(best);
    }

    public int least(int gift, int wish, int year, int what) {
        if (!three(gift, wish, year) || what < 0 || what > 1) {
            return NONE;
        }
        LinkedHashMap<Integer, Integer> cost = new LinkedHashMap<>();
        ArrayDeque<Integer> again = new ArrayDeque<>();
        cost.put(get(1, gift).rights, 0);
        again.add(get(1, gift).rights);
        while (!again.isEmpty()) {
            int s = again.poll();
            for (int m = 0; m < w.texts.get(0).size(); m++) {
                if (!can(gift, year, m, s, w.force)) {
                    continue;
                }
                int next = next(m, s);
                int sum = cost.get(s) + (what == 0 ? get(0, m).fee : get(0, m).days);
                if (!cost.containsKey(next) || cost.get(next) > sum) {
                    cost.put(next, sum);
                    again.add(next);
                }
                if (cost.size() > 500) {
                    return -3;
                }
            }
        }
        int best = -2;
        for (Map.Entry<Integer, Integer> e : cost.entrySet()) {
            if (wish(wish, e.getKey()) && (best == -2 || e.getValue() < best)) {
                best = e.getValue();
            }
        }
        return best;
    }

    public int safe(int gift, int wish, int year, int trusted) {
        if (!three(gift, wish, year) || trusted < 0 || trusted > 65535) {
            return NONE;
        }
        Search s = whole(gift, wish, year, w.force, (m, st) -> (turners(m, st) & ~trusted) == 0);
        return s.status == 2 ? rowOf(s).size() : s.status == 3 ? -2 : -3;
    }

    public long keys(int gift, int wish, int year) {
        if (!three(gift, wish, year)) {
            return NONE;
        }
        long set = 0;
        for (int k = 0; k < w.texts.get(0).size(); k++) {
            int without = k;
            if (whole(gift, wish, year, w.force, (m, s) -> m != without).status == 3) {
                set |= 1L << k;
            }
        }
        return set;
    }

    public int last(int gift, int wish, int from, int to) {
        if (!three(gift, wish, from) || !year(to) || to < from || to > from + 99) {
            return NONE;
        }
        for (int y = from; y <= to; y++) {
            if (whole(gift, wish, y, w.force, (m, s) -> true).status == 3) {
                return y;
            }
        }
        return -2;
    }

    public int roll(int gift, int year) {
        if (!has(1, gift) || !year(year) || w.rolls.size() == 30) {
            return NONE;
        }
        Roll r = new Roll();
        r.gift = gift;
        r.year = year;
        w.rolls.add(r);
        return w.rolls.size() - 1;
    }

    private boolean hasRoll(int roll) {
        return roll >= 0 && roll < w.rolls.size();
    }

    public int enter(int roll, int move) {
        if (!hasRoll(roll) || !has(0, move) || w.rolls.get(roll).moves.size() == 24) {
            return NONE;
        }
        w.rolls.get(roll).moves.add(move);
        return w.rolls.get(roll).moves.size();
    }

    /** The states ahead of each move that may be made, and the one behind them. */
    private List<Integer> path(int roll, int force) {
        Roll r = w.rolls.get(roll);
        List<Integer> states = new ArrayList<>();
        int s = get(1, r.gift).rights;
        states.add(s);
        for (int m : r.moves) {
            if (!can(r.gift, r.year, m, s, force)) {
                break;
            }
            s = next(m, s);
            states.add(s);
        }
        return states;
    }

    public int judged(int roll, int what) {
        if (!hasRoll(roll) || what < 0 || what > 1) {
            return NONE;
        }
        List<Integer> p = path(roll, w.force);
        return what == 0 ? p.size() - 1 : p.get(p.size() - 1);
    }

    public int feigned(int roll) {
        if (!hasRoll(roll)) {
            return NONE;
        }
        List<Integer> p = path(roll, w.force);
        int set = 0;
        for (int i = 0; i < w.texts.get(2).size(); i++) {
            if (wish(i, p.get(p.size() - 1)) && !wish(i, p.get(0))) {
                set += 1 << i;
            }
        }
        return set;
    }

    public int claims(int roll, int what) {
        if (!hasRoll(roll) || what < 0 || what > 1) {
            return NONE;
        }
        List<Integer> p = path(roll, w.force);
        int set = 0;
        for (Map.Entry<Integer, Integer> h : w.holders.entrySet()) {
            boolean had = (p.get(0) >> h.getKey() & 1) == 1;
            boolean has = (p.get(p.size() - 1) >> h.getKey() & 1) == 1;
            if (h.getValue() != NONE && had && has == (what == 1)) {
                set |= 1 << h.getValue();
            }
        }
        return set;
    }

    public int risk(int roll, int k) {
        if (!hasRoll(roll) || k < 0) {
            return NONE;
        }
        List<Integer> p = path(roll, w.force);
        return k >= p.size() - 1 ? NONE : turners(w.rolls.get(roll).moves.get(k), p.get(k));
    }

    public int costs(int roll, int what) {
        if (!hasRoll(roll) || what < 0 || what > 1) {
            return NONE;
        }
        int sum = 0;
        for (int i = 0; i < path(roll, w.force).size() - 1; i++) {
            Text m = get(0, w.rolls.get(roll).moves.get(i));
            sum += what == 0 ? m.fee : m.days;
        }
        return sum;
    }

    public int words(int gift, int wish, int year, int rolls, int what) {
        if (!three(gift, wish, year) || what < 0 || what > 1 || rolls < 0 || rolls >> w.rolls.size() != 0) {
            return NONE;
        }
        TreeMap<Integer, List<Integer>> bySize = new TreeMap<>();
        for (int set = 0; set < 1 << w.texts.get(3).size(); set++) {
            boolean fits = whole(gift, wish, year, set, (m, s) -> true).status == 3;
            for (int r = 0; r < w.rolls.size() && fits; r++) {
                if ((rolls >> r & 1) == 1) {
                    fits = path(r, set).size() - 1 == w.rolls.get(r).moves.size();
                }
            }
            if (fits) {
                bySize.computeIfAbsent(Integer.bitCount(set), n -> new ArrayList<>()).add(set);
            }
        }
        if (bySize.isEmpty()) {
            return -2;
        }
        List<Integer> sets = bySize.firstEntry().getValue();
        return what == 0 ? sets.get(0) : sets.size();
    }

    public int mark(int k) {
        if (k < 0 || k > 3) {
            return NONE;
        }
        marks[k] = w.copy();
        return w.texts.get(0).size();
    }

    public int back(int k) {
        if (k < 0 || k > 3 || marks[k] == null) {
            return NONE;
        }
        w = marks[k].copy();
        return w.texts.get(0).size();
    }

    public int count(int what) {
        if (what >= 0 && what <= 3) {
            return w.texts.get(what).size();
        }
        return what == 4 ? w.rolls.size() : what == 5 ? tape.size() : NONE;
    }
}
