import java.util.ArrayList;
import java.util.Arrays;
import java.util.HashMap;
import java.util.HashSet;
import java.util.IdentityHashMap;
import java.util.List;
import java.util.Map;
import java.util.Set;
import java.util.TreeMap;
import java.util.TreeSet;

/**
 * The document once more, slow and word by word: terms are trees, ways are all rows tried one after another, nothing
 * is kept that can be worked out. It shares no code with the class that it judges.
 */
final class Reference {
    /** A term: its code (f to e 0 to 7, a variable 20 to 25) and what is in its brackets. */
    record Term(int code, List<Term> inside) {
        boolean isVariable() { return code >= 20; }

        void write(List<Integer> codes) {
            codes.add(code);
            for (Term t : inside) t.write(codes);
        }

        int depth() {
            int most = 0;
            for (Term t : inside) most = Math.max(most, t.depth());
            return most + 1;
        }

        boolean holds(int variable) {
            if (code == variable) return true;
            for (Term t : inside) if (t.holds(variable)) return true;
            return false;
        }

        Term with(Map<Integer, Term> put) {
            if (put.containsKey(code)) return put.get(code);
            List<Term> in = new ArrayList<>();
            for (Term t : inside) in.add(t.with(put));
            return new Term(code, in);
        }
    }

    record Literal(int sign, int predicate, List<Term> terms) {
        List<Integer> codes() {
            List<Integer> codes = new ArrayList<>();
            codes.add(100 + 2 * predicate + sign);
            for (Term t : terms) t.write(codes);
            return codes;
        }

        Literal with(Map<Integer, Term> put) {
            List<Term> in = new ArrayList<>();
            for (Term t : terms) in.add(t.with(put));
            return new Literal(sign, predicate, in);
        }
    }

    private static final class Refused extends Exception {
        private static final long serialVersionUID = 1;
        final int fault;
        final int place;
        Refused(int fault, int place) { this.fault = fault; this.place = place; }
    }

    private List<Integer> tape = new ArrayList<>();
    private TreeMap<Integer, List<Literal>> kept = new TreeMap<>();
    private List<Integer> order = new ArrayList<>();
    private List<Literal> query = List.of();
    private int fault = 0;
    private int place = -1;
    private final List<TreeMap<Integer, List<Literal>>> oldKept = new ArrayList<>();
    private final List<List<Integer>> oldOrder = new ArrayList<>();
    private final Map<Integer, Object[]> images = new HashMap<>();
    /** What was worked out already; it spares time, no more. */
    private final Map<List<?>, List<List<Integer>>> judged = new HashMap<>();
    private final Map<List<Literal>, int[][]> measured = new IdentityHashMap<>();

    // ---- reading: a stack of what is still to come

    /** What may come: a sign itself, or one of the kinds below. */
    private static final char TERM = 1, LITERAL = 2, HEAD = 3, MORE = 4, VARIABLE = 5;

    /** The text's symbols as {code}, or the first fault along it. */
    private static List<Integer> scan(List<Integer> bytes, boolean put) throws Refused {
        List<Integer> codes = new ArrayList<>();
        if (bytes.isEmpty() && !put) return codes;
        List<int[]> todo = new ArrayList<>();
        if (put) {
            todo.add(new int[] {TERM, 1});
            todo.add(new int[] {'=', 0});
            todo.add(new int[] {VARIABLE, 0});
        } else {
            todo.add(new int[] {MORE, 0});
            todo.add(new int[] {LITERAL, 0});
        }
        int literals = 0;
        int sign = 0;
        int i = 0;
        while (!todo.isEmpty()) {
            int[] top = todo.remove(todo.size() - 1);
            if (top[0] == MORE && i == bytes.size()) return codes;
            if (i == bytes.size()) throw new Refused(1, i);
            char b = (char) (int) bytes.get(i);
            if (top[0] == LITERAL) {
                sign = 0;
                todo.add(new int[] {HEAD, 0});
                if (b == '-') { sign = 1; i++; }
                continue;
            }
            if (top[0] == MORE) {
                if (b != '|') throw new Refused(1, i);
                if (literals == 5) throw new Refused(2, i);
                todo.add(new int[] {MORE, 0});
                todo.add(new int[] {LITERAL, 0});
                i++;
                continue;
            }
            String letters = top[0] == HEAD ? "pqrs" : top[0] == VARIABLE ? "uvwxyz" : top[0] == TERM ? "fghabcdeuvwxyz" : null;
            if (letters == null) {
                if (b != top[0]) throw new Refused(1, i);
                i++;
                continue;
            }
            int which = letters.indexOf(b);
            if (which < 0) throw new Refused(1, i);
            if (codes.size() == 30) throw new Refused(3, i);
            if (top[1] == 6) throw new Refused(4, i);
            int wants = "fgps".indexOf(b) >= 0 ? 1 : "hq".indexOf(b) >= 0 ? 2 : 0;
            if (top[0] == HEAD) {
                codes.add(100 + 2 * which + sign);
                literals++;
            } else if (top[0] == VARIABLE) {
                codes.add(20 + which);
            } else {
                codes.add(which < 8 ? which : 12 + which);
            }
            if (wants > 0) todo.add(new int[] {')', 0});
            if (wants == 2) {
                todo.add(new int[] {TERM, top[1] + 1});
                todo.add(new int[] {',', 0});
            }
            if (wants > 0) {
                todo.add(new int[] {TERM, top[1] + 1});
                todo.add(new int[] {'(', 0});
            }
            i++;
        }
        if (i < bytes.size()) throw new Refused(1, i);
        return codes;
    }

    private static Term term(List<Integer> codes, int[] at) {
        int code = codes.get(at[0]++);
        List<Term> inside = new ArrayList<>();
        int wants = code == 0 || code == 1 ? 1 : code == 2 ? 2 : 0;
        for (int i = 0; i < wants; i++) inside.add(term(codes, at));
        return new Term(code, inside);
    }

    private static List<Literal> clause(List<Integer> codes) {
        List<Literal> clause = new ArrayList<>();
        int[] at = {0};
        while (at[0] < codes.size()) {
            int head = codes.get(at[0]++) - 100;
            List<Term> terms = new ArrayList<>();
            int wants = new int[] {1, 2, 0, 1}[head / 2];
            for (int i = 0; i < wants; i++) terms.add(term(codes, at));
            clause.add(new Literal(head % 2, head / 2, terms));
        }
        return clause;
    }

    private static List<Integer> codes(List<Literal> clause) {
        List<Integer> codes = new ArrayList<>();
        for (Literal l : clause) codes.addAll(l.codes());
        return codes;
    }

    private List<Integer> read(int n, boolean put) throws Refused {
        List<Integer> bytes = new ArrayList<>(tape.subList(0, n));
        tape.clear();
        try {
            List<Integer> codes = scan(bytes, put);
            fault = 0;
            place = -1;
            return codes;
        } catch (Refused r) {
            fault = r.fault;
            place = r.place;
            throw r;
        }
    }

    private static boolean tooMuch(List<Literal> clause) {
        for (Literal l : clause) for (Term t : l.terms()) if (t.depth() > 5) return true;
        return codes(clause).size() > 30;
    }

    private static List<Literal> with(List<Literal> clause, int variable, Term t) {
        List<Literal> done = new ArrayList<>();
        for (Literal l : clause) done.add(l.with(Map.of(variable, t)));
        return done;
    }

    private List<Literal> get(int k) { return k == 24 ? query : kept.get(k); }

    private void note() {
        oldKept.add(new TreeMap<>(kept));
        oldOrder.add(new ArrayList<>(order));
        if (oldKept.size() > 10) {
            oldKept.remove(0);
            oldOrder.remove(0);
        }
    }

    // ---- texts

    int feed(int a, int b, int c, int d, int e) {
        if (tape.size() > 80) return -4;
        for (int word : new int[] {a, b, c, d, e}) {
            tape.add(word >>> 24);
            tape.add(word >>> 16 & 0xff);
            tape.add(word >>> 8 & 0xff);
            tape.add(word & 0xff);
        }
        return tape.size();
    }

    private int lowest() {
        int k = 0;
        while (kept.containsKey(k)) k++;
        return k;
    }

    int add(int n) {
        if (n < 0 || n > tape.size()) return -3;
        if (kept.size() == 24) return -4;
        try {
            List<Literal> c = clause(read(n, false));
            note();
            int k = lowest();
            kept.put(k, c);
            return k;
        } catch (Refused r) {
            return -30 - r.fault;
        }
    }

    int query(int n) {
        if (n < 0 || n > tape.size()) return -3;
        try {
            query = clause(read(n, false));
            return query.size();
        } catch (Refused r) {
            return -30 - r.fault;
        }
    }

    int apply(int n) {
        if (n < 0 || n > tape.size()) return -3;
        try {
            List<Integer> codes = read(n, true);
            int variable = codes.get(0);
            Term t = term(codes, new int[] {1});
            int times = 0;
            for (int code : codes(query)) if (code == variable) times++;
            List<Literal> done = with(query, variable, t);
            if (tooMuch(done)) return -4;
            query = done;
            return times;
        } catch (Refused r) {
            return -30 - r.fault;
        }
    }

    int fault(int what) { return what == 0 ? fault : what == 1 ? place : -1; }

    int take(int k) {
        if (get(k) == null) return -2;
        query = get(k);
        return query.size();
    }

    int keep() {
        if (kept.size() == 24) return -4;
        note();
        int k = lowest();
        kept.put(k, query);
        return k;
    }

    int remove(int k) {
        if (!kept.containsKey(k)) return -2;
        note();
        kept.remove(k);
        return kept.size();
    }

    // ---- a clause

    int literals(int k) { return get(k) == null ? -2 : get(k).size(); }

    int literal(int k, int i, int what) {
        if (get(k) == null || i < 0 || i >= get(k).size() || what < 0 || what > 2) return -2;
        Literal l = get(k).get(i);
        return what == 0 ? l.sign() : what == 1 ? l.predicate() : l.codes().size();
    }

    int code(int k, int i) {
        if (k < 0 || k > 24) return -2;
        if (get(k) == null) return -6;
        List<Integer> codes = codes(get(k));
        return i < 0 || i >= codes.size() ? -7 : codes.get(i);
    }

    int variables(int k) {
        if (get(k) == null) return -2;
        int bits = 0;
        for (int code : codes(get(k))) if (code >= 20 && code < 26) bits |= 1 << code - 20;
        return bits;
    }

    int always(int k) {
        if (get(k) == null) return -2;
        for (Literal a : get(k)) {
            if (get(k).contains(new Literal(1 - a.sign(), a.predicate(), a.terms()))) return 1;
        }
        return 0;
    }

    int condensed(int k, int what) {
        if (get(k) == null || what < 0 || what > 1) return -2;
        List<Literal> c = get(k);
        int best = (1 << c.size()) - 1;
        for (int bits = best; bits >= 0; bits--) {
            List<Literal> some = new ArrayList<>();
            for (int i = 0; i < c.size(); i++) if ((bits & 1 << i) != 0) some.add(c.get(i));
            if (Integer.bitCount(bits) <= Integer.bitCount(best) && !rows(c, some, 0).isEmpty()) best = bits;
        }
        return what == 0 ? Integer.bitCount(best) : best;
    }

    // ---- two clauses

    private static boolean match(Term c, Term d, Map<Integer, Term> put) {
        if (c.isVariable()) {
            Term old = put.putIfAbsent(c.code(), d);
            return old == null || old.equals(d);
        }
        if (c.code() != d.code()) return false;
        for (int i = 0; i < c.inside().size(); i++) {
            if (!match(c.inside().get(i), d.inside().get(i), put)) return false;
        }
        return true;
    }

    /** What a row of places puts for the variables, or null if it is no way. */
    private static Map<Integer, Term> puts(List<Literal> c, List<Literal> d, List<Integer> row) {
        Map<Integer, Term> put = new HashMap<>();
        for (int i = 0; i < c.size(); i++) {
            Literal a = c.get(i);
            Literal b = d.get(row.get(i));
            if (a.sign() != b.sign() || a.predicate() != b.predicate()) return null;
            for (int t = 0; t < a.terms().size(); t++) {
                if (!match(a.terms().get(t), b.terms().get(t), put)) return null;
            }
        }
        return put;
    }

    /** All ways: every row there is, tried in rising order. */
    private List<List<Integer>> rows(List<Literal> c, List<Literal> d, int mode) {
        return judged.computeIfAbsent(List.of(codes(c), codes(d), mode), pair -> allRows(c, d, mode));
    }

    private static List<List<Integer>> allRows(List<Literal> c, List<Literal> d, int mode) {
        List<List<Integer>> found = new ArrayList<>();
        int all = 1;
        for (int i = 0; i < c.size(); i++) all *= d.size();
        for (int number = 0; number < all; number++) {
            Integer[] row = new Integer[c.size()];
            int rest = number;
            for (int i = c.size() - 1; i >= 0; i--) {
                row[i] = rest % d.size();
                rest /= d.size();
            }
            List<Integer> places = Arrays.asList(row);
            if (mode == 1 && new HashSet<>(places).size() < c.size()) continue;
            if (puts(c, d, places) != null) found.add(places);
        }
        return found;
    }

    private boolean over(List<Literal> c, List<Literal> d, int mode) { return !rows(c, d, mode).isEmpty(); }

    private static boolean isMode(int mode) { return mode == 0 || mode == 1; }

    int covers(int a, int b, int mode) {
        if (get(a) == null || get(b) == null || !isMode(mode)) return -2;
        return over(get(a), get(b), mode) ? 1 : 0;
    }

    int ways(int a, int b, int mode) {
        if (get(a) == null || get(b) == null || !isMode(mode)) return -2;
        return rows(get(a), get(b), mode).size();
    }

    int way(int a, int b, int mode, int i) {
        if (get(a) == null || get(b) == null || !isMode(mode) || i < 0 || i >= get(a).size()) return -2;
        List<List<Integer>> rows = rows(get(a), get(b), mode);
        return rows.isEmpty() ? -1 : rows.get(0).get(i);
    }

    int bound(int a, int b, int mode, int v, int i) {
        if (get(a) == null || get(b) == null || !isMode(mode) || v < 0 || v > 5) return -2;
        if (i < -1) return -3;
        List<List<Integer>> rows = rows(get(a), get(b), mode);
        if (rows.isEmpty()) return -1;
        Term t = puts(get(a), get(b), rows.get(0)).get(20 + v);
        if (t == null) return -1;
        List<Integer> codes = new ArrayList<>();
        t.write(codes);
        return i == -1 ? codes.size() : i < codes.size() ? codes.get(i) : -1;
    }

    int single(int a, int b) {
        if (get(a) == null || get(b) == null) return -2;
        int bits = 0;
        for (int i = 0; i < get(a).size(); i++) {
            if (over(List.of(get(a).get(i)), get(b), 0)) bits |= 1 << i;
        }
        return bits;
    }

    int factor(int k, int i, int j) {
        List<Literal> c = get(k);
        if (c == null || i < 0 || j < 0 || i >= c.size() || j >= c.size() || i == j) return -2;
        if (c.get(i).sign() != c.get(j).sign() || c.get(i).predicate() != c.get(j).predicate()) return -5;
        while (!c.get(i).equals(c.get(j))) {
            Term[] two = null;
            for (int t = 0; two == null; t++) two = firstUnlike(c.get(i).terms().get(t), c.get(j).terms().get(t));
            Term from = two[0].isVariable() ? two[0] : two[1];
            Term to = two[0].isVariable() ? two[1] : two[0];
            if (!from.isVariable() || to.holds(from.code())) return -5;
            c = with(c, from.code(), to);
            if (tooMuch(c)) return -4;
        }
        c = new ArrayList<>(c);
        c.remove(j);
        query = c;
        return c.size();
    }

    private static Term[] firstUnlike(Term a, Term b) {
        if (a.code() != b.code()) return new Term[] {a, b};
        for (int i = 0; i < a.inside().size(); i++) {
            Term[] two = firstUnlike(a.inside().get(i), b.inside().get(i));
            if (two != null) return two;
        }
        return null;
    }

    private boolean same(List<Literal> c, List<Literal> d) {
        if (c.size() != d.size()) return false;
        for (List<Integer> row : rows(c, d, 1)) {
            Map<Integer, Term> put = puts(c, d, row);
            boolean names = new HashSet<>(put.values()).size() == put.size();
            for (Term t : put.values()) names &= t.isVariable();
            if (names) return true;
        }
        return false;
    }

    int alike(int a, int b) {
        if (get(a) == null || get(b) == null) return -2;
        return same(get(a), get(b)) ? 1 : 0;
    }

    // ---- features, the tree

    private static void depths(Term t, int depth, int symbol, List<Integer> found) {
        if (t.code() == symbol) found.add(depth);
        for (Term in : t.inside()) depths(in, depth + 1, symbol, found);
    }

    private int value(List<Literal> c, int feature, int mode) {
        int[][] values = measured.computeIfAbsent(c, it -> new int[2][40]);
        // one more than the value, so that 0 tells: not worked out yet
        if (values[mode][feature] == 0) values[mode][feature] = measure(c, feature, mode) + 1;
        return values[mode][feature] - 1;
    }

    private static int measure(List<Literal> c, int feature, int mode) {
        int most = 0;
        int times = 0;
        for (Literal l : c) {
            if (l.sign() != feature % 2) continue;
            if (feature < 8) {
                if (l.predicate() == feature / 2) times++;
                continue;
            }
            List<Integer> found = new ArrayList<>();
            for (Term t : l.terms()) depths(t, 1, (feature - (feature < 24 ? 8 : 24)) / 2, found);
            times += found.size();
            for (int depth : found) most = Math.max(most, depth);
        }
        if (feature >= 24) return most;
        return mode == 0 && times > 1 ? 1 : times;
    }

    private static boolean isFeature(int f) { return f >= 0 && f < 40; }

    int value(int k, int feature, int mode) {
        if (get(k) == null || !isFeature(feature) || !isMode(mode)) return -2;
        return value(get(k), feature, mode);
    }

    int power(int feature, int mode) {
        if (!isFeature(feature) || !isMode(mode)) return -2;
        int two = 0;
        for (int a : kept.keySet()) {
            for (int b : kept.keySet()) {
                if (a < b && value(get(a), feature, mode) != value(get(b), feature, mode)) two++;
            }
        }
        return two;
    }

    private void relay(List<Integer> row) {
        if (row.equals(order)) return;
        note();
        order = row;
    }

    int choose(int n, int mode) {
        if (!isMode(mode)) return -2;
        if (n < 0 || n > 8) return -3;
        List<Integer> all = new ArrayList<>();
        Map<Integer, Integer> powers = new HashMap<>();
        for (int f = 0; f < 40; f++) {
            all.add(f);
            powers.put(f, power(f, mode));
        }
        all.sort((f, g) -> powers.get(f).equals(powers.get(g)) ? f - g : powers.get(g) - powers.get(f));
        relay(new ArrayList<>(all.subList(0, n)));
        return nodes();
    }

    private int left(List<Integer> features, int mode) {
        int pairs = 0;
        for (List<Literal> a : kept.values()) {
            for (List<Literal> b : kept.values()) {
                boolean could = true;
                for (int f : features) could = could && value(a, f, mode) <= value(b, f, mode);
                if (could) pairs++;
            }
        }
        // each of them was paired with itself, too
        pairs -= kept.size();
        return pairs;
    }

    int greedy(int n, int mode) {
        if (!isMode(mode)) return -2;
        if (n < 0 || n > 8) return -3;
        List<Integer> row = new ArrayList<>();
        for (int i = 0; i < n; i++) {
            int best = -1;
            int fewest = 0;
            for (int f = 39; f >= 0; f--) {
                if (row.contains(f)) continue;
                row.add(f);
                int pairs = left(row, mode);
                row.remove(i);
                if (best < 0 || pairs <= fewest) {
                    best = f;
                    fewest = pairs;
                }
            }
            row.add(best);
        }
        relay(row);
        return left(row, mode);
    }

    int lay(int feature) {
        if (!isFeature(feature)) return -2;
        if (order.size() == 8) return -4;
        if (order.contains(feature)) return -5;
        note();
        order.add(feature);
        return order.size();
    }

    int unlay() {
        if (order.isEmpty()) return -5;
        note();
        order.remove(order.size() - 1);
        return order.size();
    }

    int order(int i) { return i < 0 || i >= order.size() ? -1 : order.get(i); }

    /** A node is the row of values that leads to it; its number is its place in the tree gone through. */
    private List<List<Integer>> allNodes() {
        TreeSet<List<Integer>> rows = new TreeSet<>((x, y) -> {
            for (int i = 0; i < x.size() && i < y.size(); i++) {
                if (!x.get(i).equals(y.get(i))) return x.get(i) - y.get(i);
            }
            return x.size() - y.size();
        });
        rows.add(List.of());
        for (List<Literal> c : kept.values()) {
            for (int n = 0; n <= order.size(); n++) rows.add(rowOf(c, n));
        }
        return new ArrayList<>(rows);
    }

    private List<Integer> rowOf(List<Literal> c, int n) {
        List<Integer> row = new ArrayList<>();
        for (int i = 0; i < n; i++) row.add(value(c, order.get(i), 1));
        return row;
    }

    int nodes() { return allNodes().size(); }

    int node(int i, int what) {
        List<List<Integer>> all = allNodes();
        if (i < 0 || i >= all.size() || what < 0 || what > 3) return -2;
        List<Integer> row = all.get(i);
        int n = row.size();
        if (what == 0) return n;
        if (what == 1) return n == 0 ? -1 : row.get(n - 1);
        int found = 0;
        if (what == 2) {
            for (List<Integer> r : all) if (r.size() == n + 1 && r.subList(0, n).equals(row)) found++;
        } else {
            for (List<Literal> c : kept.values()) if (rowOf(c, n).equals(row)) found++;
        }
        return found;
    }

    int at(int k) {
        return kept.containsKey(k) ? allNodes().indexOf(rowOf(get(k), order.size())) : -2;
    }

    private static int pick(List<Integer> found, int i) { return i == -1 ? found.size() : i < found.size() ? found.get(i) : -1; }

    int forward(int mode, int i) {
        if (!isMode(mode)) return -2;
        if (i < -1) return -3;
        List<Integer> found = new ArrayList<>();
        for (int k : kept.keySet()) if (over(get(k), query, mode)) found.add(k);
        return pick(found, i);
    }

    int backward(int mode, int i) {
        if (!isMode(mode)) return -2;
        if (i < -1) return -3;
        List<Integer> found = new ArrayList<>();
        for (int k : kept.keySet()) if (over(query, get(k), mode)) found.add(k);
        return pick(found, i);
    }

    /** A node is visited if it and all above it pass. */
    private boolean isVisited(List<Integer> row, List<Literal> c, int way, int mode) {
        for (int i = 0; i < row.size(); i++) {
            int mine = mode == 0 && order.get(i) < 24 ? Math.min(1, row.get(i)) : row.get(i);
            int its = value(c, order.get(i), mode);
            if (way == 0 ? mine > its : mine < its) return false;
        }
        return true;
    }

    private int visits(List<Literal> c, int way, int mode) {
        int found = 0;
        for (List<Integer> row : allNodes()) if (isVisited(row, c, way, mode)) found++;
        return found;
    }

    int visited(int way, int mode) { return !isMode(way) || !isMode(mode) ? -2 : visits(query, way, mode); }

    int candidates(int way, int mode) {
        if (!isMode(way) || !isMode(mode)) return -2;
        int bits = 0;
        for (int k : kept.keySet()) if (isVisited(rowOf(get(k), order.size()), query, way, mode)) bits |= 1 << k;
        return bits;
    }

    int total(int way, int mode) {
        if (!isMode(way) || !isMode(mode)) return -2;
        int sum = 0;
        for (List<Literal> c : kept.values()) sum += visits(c, way, mode);
        return sum;
    }

    int pairs(int mode, int what) {
        if (!isMode(mode) || what < 0 || what > 1) return -2;
        if (what == 0) return left(order, mode);
        int pairs = 0;
        for (int a : kept.keySet()) for (int b : kept.keySet()) if (a != b && over(get(a), get(b), mode)) pairs++;
        return pairs;
    }

    int rate(int mode) {
        if (!isMode(mode)) return -2;
        return pairs(mode, 0) == 0 ? 0 : Float.floatToIntBits((float) pairs(mode, 1) / (float) pairs(mode, 0));
    }

    int best(int mode, int what) {
        if (!isMode(mode) || what < 0 || what > 2) return -2;
        int[] best = null;
        for (int f = 0; f < 40; f++) {
            for (int g = f + 1; g < 40; g++) {
                int pairs = left(List.of(f, g), mode);
                if (best == null || pairs < best[0]) best = new int[] {pairs, f, g};
            }
        }
        return best[what];
    }

    // ---- all clauses

    private boolean moreGeneral(int a, int b, int mode) { return over(get(a), get(b), mode) && !over(get(b), get(a), mode); }

    private Set<Integer> spare(int mode) {
        Set<Integer> found = new TreeSet<>();
        for (int it : kept.keySet()) {
            for (int that : kept.keySet()) {
                if (it != that && over(get(that), get(it), mode) && (!over(get(it), get(that), mode) || that < it)) found.add(it);
            }
        }
        return found;
    }

    int redundant(int mode) {
        if (!isMode(mode)) return -2;
        int bits = 0;
        for (int k : spare(mode)) bits |= 1 << k;
        return bits;
    }

    int clean(int mode) {
        if (!isMode(mode)) return -2;
        Set<Integer> gone = spare(mode);
        if (!gone.isEmpty()) note();
        for (int k : gone) kept.remove(k);
        return gone.size();
    }

    int tops(int mode) {
        if (!isMode(mode)) return -2;
        int bits = 0;
        for (int k : kept.keySet()) {
            boolean top = true;
            for (int other : kept.keySet()) top = top && !moreGeneral(other, k, mode);
            if (top) bits |= 1 << k;
        }
        return bits;
    }

    private List<Integer> longest(int from, int mode) {
        List<Integer> best = List.of();
        for (int next : kept.keySet()) {
            if (from >= 0 && !moreGeneral(from, next, mode)) continue;
            List<Integer> row = new ArrayList<>(List.of(next));
            row.addAll(longest(next, mode));
            if (row.size() > best.size()) best = row;
        }
        return best;
    }

    int chain(int mode, int i) {
        if (!isMode(mode)) return -2;
        if (i < -1) return -3;
        return pick(longest(-1, mode), i);
    }

    int parts(int mode) {
        if (!isMode(mode)) return -2;
        Map<Integer, Integer> part = new HashMap<>();
        for (int k : kept.keySet()) part.put(k, k);
        for (int a : kept.keySet()) {
            for (int b : kept.keySet()) {
                if (over(get(a), get(b), mode) && over(get(b), get(a), mode)) {
                    int from = part.get(a);
                    int to = part.get(b);
                    part.replaceAll((k, p) -> p == from ? (Integer) to : p);
                }
            }
        }
        return new HashSet<>(part.values()).size();
    }

    int doubles() {
        int found = 0;
        for (int k : kept.keySet()) {
            boolean twice = false;
            for (int lower : kept.headMap(k).keySet()) twice = twice || same(get(k), get(lower));
            if (twice) found++;
        }
        return found;
    }

    // ---- back

    int undo(int n) {
        if (n < 1 || n > 10 || n > oldKept.size()) return -3;
        for (int i = 0; i < n; i++) {
            kept = oldKept.remove(oldKept.size() - 1);
            order = oldOrder.remove(oldOrder.size() - 1);
        }
        return oldKept.size();
    }

    int image(int i) {
        if (i < 0 || i > 1) return -2;
        images.put(i, new Object[] {new TreeMap<>(kept), new ArrayList<>(order), query});
        return 0;
    }

    @SuppressWarnings("unchecked")
    int restore(int i) {
        if (i < 0 || i > 1) return -2;
        Object[] image = images.get(i);
        if (image == null) return -6;
        kept = new TreeMap<>((TreeMap<Integer, List<Literal>>) image[0]);
        order = new ArrayList<>((List<Integer>) image[1]);
        query = (List<Literal>) image[2];
        oldKept.clear();
        oldOrder.clear();
        return 0;
    }

    int count(int what) {
        int bits = 0;
        for (int k : kept.keySet()) bits |= 1 << k;
        int[] all = {kept.size(), bits, codes(query).size(), order.size(), oldKept.size(), tape.size()};
        return what < 0 || what > 5 ? -1 : all[what];
    }
}
