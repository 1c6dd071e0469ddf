/** An index of clauses by which more general ones are found; DOC.md tells what each call promises. */
public final class ClauseIndex {
    /** There is none. */
    public static final int NONE = -1;

    private static final int NO_SUCH = -2;
    private static final int WRONG_NUMBER = -3;
    private static final int TOO_MANY = -4;
    private static final int CANNOT_BE = -5;
    private static final int MISSING = -6;
    private static final int NOT_SO_MANY = -7;
    private static final int FAULTY = -30;

    private static final int FAULT_BYTE = 1;
    private static final int FAULT_LITERALS = 2;
    private static final int FAULT_SYMBOLS = 3;
    private static final int FAULT_DEPTH = 4;

    private static final int MOST_BYTES = 100;
    private static final int BYTES_FED = 20;
    private static final int MOST_LITERALS = 5;
    private static final int MOST_SYMBOLS = 30;
    private static final int MOST_DEPTH = 5;
    private static final int MOST_KEPT = 24;
    private static final int QUERY = 24;
    private static final int MOST_ORDER = 8;
    private static final int MOST_UNDONE = 10;
    private static final int IMAGES = 2;
    private static final int ENDLESS = 1000000;
    private static final int MOST_NODES = 1 + MOST_ORDER * MOST_KEPT;

    private static final int FEATURES = 40;
    private static final int COUNTS_OF_SYMBOLS = 8;
    private static final int DEPTHS_OF_SYMBOLS = 24;

    private static final int FUNCTIONS_OF_TWO = 2;
    private static final int FIRST_CONSTANT = 3;
    private static final int SYMBOLS = 8;
    private static final int FIRST_VARIABLE = 20;
    private static final int VARIABLES = 6;
    private static final int FIRST_PREDICATE = 100;

    private static final int[] PREDICATE_TERMS = {1, 2, 0, 1};

    private final Reader reader = new Reader();
    private final Matcher matcher = new Matcher();
    private final Tree tree = new Tree();
    private final Parting parting = new Parting();
    private final History history = new History();
    private final Relation bySets = new Relation();
    private final Relation byNumbers = new Relation();
    private final State now = new State();
    private final State[] pictures = new State[IMAGES];
    private final Clause[] picturedQueries = new Clause[IMAGES];
    private final int[] wanted = new int[MOST_ORDER];
    private Draft work = new Draft();
    private Draft spare = new Draft();
    private Clause asked = new Clause(work);

    public ClauseIndex() {
        for (int i = 0; i < IMAGES; i++) {
            pictures[i] = new State();
        }
    }

    // ---- texts

    public int feed(int a, int b, int c, int d, int e) {
        if (reader.onTape() + BYTES_FED > MOST_BYTES) {
            return TOO_MANY;
        }
        reader.putWord(a);
        reader.putWord(b);
        reader.putWord(c);
        reader.putWord(d);
        reader.putWord(e);
        return reader.onTape();
    }

    public int add(int n) {
        if (n < 0 || n > reader.onTape()) {
            return WRONG_NUMBER;
        }
        int k = now.lowestFree();
        if (k == NONE) {
            return TOO_MANY;
        }
        if (!reader.readClause(n)) {
            return FAULTY - reader.latestFault();
        }
        change(k, new Clause(reader.symbolsRead()));
        return k;
    }

    public int query(int n) {
        if (n < 0 || n > reader.onTape()) {
            return WRONG_NUMBER;
        }
        if (!reader.readClause(n)) {
            return FAULTY - reader.latestFault();
        }
        asked = new Clause(reader.symbolsRead());
        return asked.size();
    }

    public int apply(int n) {
        if (n < 0 || n > reader.onTape()) {
            return WRONG_NUMBER;
        }
        if (!reader.readPut(n)) {
            return FAULTY - reader.latestFault();
        }
        Draft put = reader.symbolsRead();
        int variable = put.codeAt(0);
        work.load(asked);
        int times = work.times(variable, 0, work.size());
        if (!spare.loadPut(work, variable, put, 1, put.size())) {
            return TOO_MANY;
        }
        asked = new Clause(spare);
        return times;
    }

    public int fault(int what) {
        switch (what) {
            case 0: return reader.latestFault();
            case 1: return reader.latestPlace();
            default: return NONE;
        }
    }

    public int take(int k) {
        Clause c = clauseOf(k);
        if (c == null) {
            return NO_SUCH;
        }
        asked = c;
        return c.size();
    }

    public int keep() {
        int k = now.lowestFree();
        if (k == NONE) {
            return TOO_MANY;
        }
        change(k, asked);
        return k;
    }

    public int remove(int k) {
        if (now.clause(k) == null) {
            return NO_SUCH;
        }
        change(k, null);
        return Integer.bitCount(now.numbers());
    }

    // ---- a clause

    public int literals(int k) {
        Clause c = clauseOf(k);
        return c == null ? NO_SUCH : c.size();
    }

    public int literal(int k, int i, int what) {
        Clause c = clauseOf(k);
        if (c == null || !c.has(i)) {
            return NO_SUCH;
        }
        int head = c.codeAt(c.start(i)) - FIRST_PREDICATE;
        switch (what) {
            case 0: return head & 1;
            case 1: return head >> 1;
            case 2: return c.start(i + 1) - c.start(i);
            default: return NO_SUCH;
        }
    }

    public int code(int k, int i) {
        if (k < 0 || k > QUERY) {
            return NO_SUCH;
        }
        Clause c = clauseOf(k);
        if (c == null) {
            return MISSING;
        }
        return i < 0 || i >= c.symbols() ? NOT_SO_MANY : c.codeAt(i);
    }

    public int variables(int k) {
        Clause c = clauseOf(k);
        return c == null ? NO_SUCH : c.variableBits();
    }

    public int always(int k) {
        Clause c = clauseOf(k);
        if (c == null) {
            return NO_SUCH;
        }
        for (int i = 0; i < c.size(); i++) {
            for (int j = i + 1; j < c.size(); j++) {
                if (c.opposite(i, j)) {
                    return 1;
                }
            }
        }
        return 0;
    }

    public int condensed(int k, int what) {
        Clause c = clauseOf(k);
        if (c == null || what < 0 || what > 1) {
            return NO_SUCH;
        }
        int bits = fewest(c);
        return what == 0 ? Integer.bitCount(bits) : bits;
    }

    // ---- two clauses

    public int covers(int a, int b, int mode) {
        Clause c = clauseOf(a);
        Clause d = clauseOf(b);
        if (c == null || d == null || !isMode(mode)) {
            return NO_SUCH;
        }
        return matcher.findsFirst(c, d, mode) ? 1 : 0;
    }

    public int ways(int a, int b, int mode) {
        Clause c = clauseOf(a);
        Clause d = clauseOf(b);
        if (c == null || d == null || !isMode(mode)) {
            return NO_SUCH;
        }
        return matcher.countAll(c, d, mode);
    }

    public int way(int a, int b, int mode, int i) {
        Clause c = clauseOf(a);
        Clause d = clauseOf(b);
        if (c == null || d == null || !isMode(mode) || !c.has(i)) {
            return NO_SUCH;
        }
        return matcher.findsFirst(c, d, mode) ? matcher.placeOf(i) : NONE;
    }

    public int bound(int a, int b, int mode, int v, int i) {
        Clause c = clauseOf(a);
        Clause d = clauseOf(b);
        if (c == null || d == null || !isMode(mode) || v < 0 || v >= VARIABLES) {
            return NO_SUCH;
        }
        if (i < NONE) {
            return WRONG_NUMBER;
        }
        if (!matcher.findsFirst(c, d, mode)) {
            return NONE;
        }
        int start = matcher.termOf(v);
        if (start == NONE) {
            return NONE;
        }
        int size = d.endOfTerm(start) - start;
        if (i == NONE) {
            return size;
        }
        return i < size ? d.codeAt(start + i) : NONE;
    }

    public int single(int a, int b) {
        Clause c = clauseOf(a);
        Clause d = clauseOf(b);
        if (c == null || d == null) {
            return NO_SUCH;
        }
        int bits = 0;
        for (int i = 0; i < c.size(); i++) {
            if (matcher.findsForOne(c, i, d)) {
                bits |= 1 << i;
            }
        }
        return bits;
    }

    public int factor(int k, int i, int j) {
        Clause c = clauseOf(k);
        if (c == null || !c.has(i) || !c.has(j) || i == j) {
            return NO_SUCH;
        }
        if (c.codeAt(c.start(i)) != c.codeAt(c.start(j))) {
            return CANNOT_BE;
        }
        work.load(c);
        int refused = makeSame(i, j);
        if (refused != 0) {
            return refused;
        }
        spare.loadWithout(work, work.startOf(j), work.startOf(j + 1));
        asked = new Clause(spare);
        return asked.size();
    }

    public int alike(int a, int b) {
        Clause c = clauseOf(a);
        Clause d = clauseOf(b);
        if (c == null || d == null) {
            return NO_SUCH;
        }
        return matcher.findsRenaming(c, d) ? 1 : 0;
    }

    // ---- features, the tree

    public int value(int k, int feature, int mode) {
        Clause c = clauseOf(k);
        if (c == null || !isFeature(feature) || !isMode(mode)) {
            return NO_SUCH;
        }
        return c.measure(feature, mode);
    }

    public int power(int feature, int mode) {
        if (!isFeature(feature) || !isMode(mode)) {
            return NO_SUCH;
        }
        return parting.unlike(now, feature, mode);
    }

    public int choose(int n, int mode) {
        if (!isMode(mode)) {
            return NO_SUCH;
        }
        if (n < 0 || n > MOST_ORDER) {
            return WRONG_NUMBER;
        }
        parting.strongest(now, mode, wanted, n);
        changeOrder(n);
        tree.grow(now);
        return tree.size();
    }

    public int greedy(int n, int mode) {
        if (!isMode(mode)) {
            return NO_SUCH;
        }
        if (n < 0 || n > MOST_ORDER) {
            return WRONG_NUMBER;
        }
        int left = parting.closest(now, mode, wanted, n);
        changeOrder(n);
        return left;
    }

    public int lay(int feature) {
        if (!isFeature(feature)) {
            return NO_SUCH;
        }
        if (now.laid() >= MOST_ORDER) {
            return TOO_MANY;
        }
        if (now.isLaid(feature)) {
            return CANNOT_BE;
        }
        history.note(now);
        now.append(feature);
        return now.laid();
    }

    public int unlay() {
        if (now.laid() == 0) {
            return CANNOT_BE;
        }
        history.note(now);
        now.dropLast();
        return now.laid();
    }

    public int order(int i) {
        return now.featureAt(i);
    }

    public int nodes() {
        tree.grow(now);
        return tree.size();
    }

    public int node(int i, int what) {
        tree.grow(now);
        if (i < 0 || i >= tree.size()) {
            return NO_SUCH;
        }
        switch (what) {
            case 0: return tree.levelOf(i);
            case 1: return tree.valueOf(i);
            case 2: return tree.childrenOf(i);
            case 3: return Integer.bitCount(tree.membersOf(i));
            default: return NO_SUCH;
        }
    }

    public int at(int k) {
        if (now.clause(k) == null) {
            return NO_SUCH;
        }
        tree.grow(now);
        return tree.endOf(k, now.laid());
    }

    public int forward(int mode, int i) {
        if (!isMode(mode)) {
            return NO_SUCH;
        }
        return i < NONE ? WRONG_NUMBER : pick(judged(0, mode), i);
    }

    public int backward(int mode, int i) {
        if (!isMode(mode)) {
            return NO_SUCH;
        }
        return i < NONE ? WRONG_NUMBER : pick(judged(1, mode), i);
    }

    public int visited(int way, int mode) {
        if (!isWay(way) || !isMode(mode)) {
            return NO_SUCH;
        }
        tree.grow(now);
        return tree.walk(now, asked, way, mode);
    }

    public int candidates(int way, int mode) {
        if (!isWay(way) || !isMode(mode)) {
            return NO_SUCH;
        }
        tree.grow(now);
        tree.walk(now, asked, way, mode);
        return tree.reachedBits();
    }

    public int total(int way, int mode) {
        if (!isWay(way) || !isMode(mode)) {
            return NO_SUCH;
        }
        tree.grow(now);
        int sum = 0;
        for (int k = 0; k < MOST_KEPT; k++) {
            Clause c = now.clause(k);
            if (c != null) {
                sum += tree.walk(now, c, way, mode);
            }
        }
        return sum;
    }

    public int pairs(int mode, int what) {
        if (!isMode(mode) || what < 0 || what > 1) {
            return NO_SUCH;
        }
        return what == 0 ? parting.leftByOrder(now, mode) : relation(mode).size();
    }

    public int rate(int mode) {
        if (!isMode(mode)) {
            return NO_SUCH;
        }
        return floatBits(relation(mode).size(), parting.leftByOrder(now, mode));
    }

    public int best(int mode, int what) {
        if (!isMode(mode) || what < 0 || what > 2) {
            return NO_SUCH;
        }
        parting.bestTwo(now, mode);
        switch (what) {
            case 0: return parting.leftByTwo();
            case 1: return parting.lowerOfTwo();
            default: return parting.higherOfTwo();
        }
    }

    // ---- all clauses

    public int redundant(int mode) {
        return isMode(mode) ? relation(mode).spareOnes() : NO_SUCH;
    }

    public int clean(int mode) {
        if (!isMode(mode)) {
            return NO_SUCH;
        }
        int bits = relation(mode).spareOnes();
        if (bits != 0) {
            history.note(now);
            now.drop(bits);
            forgetRelations();
        }
        return Integer.bitCount(bits);
    }

    public int tops(int mode) {
        return isMode(mode) ? relation(mode).mostGeneral() : NO_SUCH;
    }

    public int chain(int mode, int i) {
        if (!isMode(mode)) {
            return NO_SUCH;
        }
        if (i < NONE) {
            return WRONG_NUMBER;
        }
        Relation relation = relation(mode);
        int length = relation.layLongestRow();
        if (i == NONE) {
            return length;
        }
        return i < length ? relation.inRow(i) : NONE;
    }

    public int parts(int mode) {
        return isMode(mode) ? relation(mode).classes() : NO_SUCH;
    }

    public int doubles() {
        int found = 0;
        for (int k = 0; k < MOST_KEPT; k++) {
            if (isDouble(k)) {
                found++;
            }
        }
        return found;
    }

    // ---- back

    public int undo(int n) {
        if (n < 1 || n > history.size()) {
            return WRONG_NUMBER;
        }
        history.goBack(n, now);
        forgetRelations();
        return history.size();
    }

    public int image(int i) {
        if (i < 0 || i >= IMAGES) {
            return NO_SUCH;
        }
        pictures[i].copy(now);
        picturedQueries[i] = asked;
        return 0;
    }

    public int restore(int i) {
        if (i < 0 || i >= IMAGES) {
            return NO_SUCH;
        }
        if (picturedQueries[i] == null) {
            return MISSING;
        }
        now.copy(pictures[i]);
        asked = picturedQueries[i];
        history.forget();
        forgetRelations();
        return 0;
    }

    public int count(int what) {
        switch (what) {
            case 0: return Integer.bitCount(now.numbers());
            case 1: return now.numbers();
            case 2: return asked.symbols();
            case 3: return now.laid();
            case 4: return history.size();
            case 5: return reader.onTape();
            default: return NONE;
        }
    }

    // ---- what the calls share

    private static boolean isMode(int mode) {
        return mode == 0 || mode == 1;
    }

    private static boolean isWay(int way) {
        return way == 0 || way == 1;
    }

    private static boolean isFeature(int feature) {
        return feature >= 0 && feature < FEATURES;
    }

    /** Mode 0 tells only whether something is there, but for depths. */
    private static int byMode(int feature, int value, int mode) {
        return mode == 0 && feature < DEPTHS_OF_SYMBOLS && value > 1 ? 1 : value;
    }

    private static boolean isVariable(int code) {
        return code >= FIRST_VARIABLE && code < FIRST_VARIABLE + VARIABLES;
    }

    /** How many terms stand in the brackets behind f to e or a variable. */
    private static int termsBehind(int code) {
        if (code < 0 || code >= FIRST_CONSTANT) {
            return 0;
        }
        return code == FUNCTIONS_OF_TWO ? 2 : 1;
    }

    private Clause clauseOf(int k) {
        return k == QUERY ? asked : now.clause(k);
    }

    /** Every call that changes one clause kept comes here, so that it can be undone. */
    private void change(int k, Clause c) {
        history.note(now);
        now.store(k, c);
        forgetRelations();
    }

    private void changeOrder(int n) {
        if (!now.isOrder(wanted, n)) {
            history.note(now);
            now.layAll(wanted, n);
        }
    }

    private void forgetRelations() {
        bySets.forget();
        byNumbers.forget();
    }

    /** Which clauses kept cover which: judged anew only if they have changed. */
    private Relation relation(int mode) {
        Relation relation = mode == 0 ? bySets : byNumbers;
        if (relation.isKnown()) {
            return relation;
        }
        relation.begin(now.numbers());
        for (int a = 0; a < MOST_KEPT; a++) {
            Clause c = now.clause(a);
            for (int b = 0; c != null && b < MOST_KEPT; b++) {
                Clause d = now.clause(b);
                if (b != a && d != null && matcher.findsFirst(c, d, mode)) {
                    relation.note(a, b);
                }
            }
        }
        return relation;
    }

    /** The fewest literals that the whole clause still covers; of as few, the least bits come first here. */
    private int fewest(Clause c) {
        int all = (1 << c.size()) - 1;
        for (int size = 0; size < c.size(); size++) {
            for (int bits = 0; bits < all; bits++) {
                if (Integer.bitCount(bits) == size && matcher.findsAmong(c, c, bits)) {
                    return bits;
                }
            }
        }
        return all;
    }

    /** Puts terms in the work draft until literals i and j are the same: 0, or the code of what forbids it. */
    private int makeSame(int i, int j) {
        for (int offset = 1; offset < MOST_SYMBOLS; offset++) {
            int p = work.startOf(i) + offset;
            int q = work.startOf(j) + offset;
            if (p >= work.startOf(i + 1) || q >= work.startOf(j + 1)) {
                return 0;
            }
            int refused = makeSameSymbol(p, q);
            if (refused != 0) {
                return refused;
            }
        }
        return 0;
    }

    private int makeSameSymbol(int p, int q) {
        int mine = work.codeAt(p);
        int other = work.codeAt(q);
        if (mine == other) {
            return 0;
        }
        if (isVariable(mine)) {
            return putWithin(mine, q);
        }
        return isVariable(other) ? putWithin(other, p) : CANNOT_BE;
    }

    /** Puts the work draft's own term at a place for one of its variables. */
    private int putWithin(int variable, int start) {
        int end = work.endOfTerm(start);
        if (work.times(variable, start, end) > 0) {
            return CANNOT_BE;
        }
        if (!spare.loadPut(work, variable, work, start, end)) {
            return TOO_MANY;
        }
        Draft old = work;
        work = spare;
        spare = old;
        return 0;
    }

    /** The clauses kept that cover the query (way 0), or that it covers (way 1), as bits. */
    private int judged(int way, int mode) {
        int bits = 0;
        for (int k = 0; k < MOST_KEPT; k++) {
            Clause c = now.clause(k);
            if (c != null && matcher.findsFirst(way == 0 ? c : asked, way == 0 ? asked : c, mode)) {
                bits |= 1 << k;
            }
        }
        return bits;
    }

    /** With i NONE how many bits there are, else the number of the i-th one. */
    private static int pick(int bits, int i) {
        if (i == NONE) {
            return Integer.bitCount(bits);
        }
        int ahead = 0;
        for (int k = 0; k < MOST_KEPT; k++) {
            if ((bits >> k & 1) == 1) {
                if (ahead == i) {
                    return k;
                }
                ahead++;
            }
        }
        return NONE;
    }

    private boolean isDouble(int k) {
        Clause c = now.clause(k);
        if (c == null) {
            return false;
        }
        for (int lower = 0; lower < k; lower++) {
            Clause d = now.clause(lower);
            if (d != null && matcher.findsRenaming(c, d)) {
                return true;
            }
        }
        return false;
    }

    /** The bits of the float nearest to a quotient from 0 to 1; of numbers this small none is as near to two. */
    private static int floatBits(int above, int below) {
        if (above <= 0 || below <= 0) {
            return 0;
        }
        long scaled = above;
        int shift = 0;
        while (shift < 40 && scaled / below < 1L << 23) {
            scaled <<= 1;
            shift++;
        }
        long quotient = scaled / below;
        if (2 * (scaled % below) > below) {
            quotient++;
        }
        return (127 + 23 - shift << 23) + (int) (quotient - (1L << 23));
    }

    /** A clause never changes once it is made, so that kept ones, what can be undone and images share it. */
    private static final class Clause {
        private final int[] codes;
        private final int[] depths;
        private final int[] ends;
        private final int[] starts;
        private final int[] measures = new int[FEATURES];

        Clause(Draft draft) {
            int size = Math.max(draft.size(), 0);
            codes = new int[size];
            depths = new int[size];
            ends = new int[size];
            for (int p = 0; p < size; p++) {
                codes[p] = draft.codeAt(p);
                depths[p] = draft.depthAt(p);
                ends[p] = draft.endOfTerm(p);
            }
            starts = startsOf(codes);
            measureAll(codes, depths, measures);
        }

        /** Where each literal begins, and behind these where the last one ends. */
        private static int[] startsOf(int[] codes) {
            int heads = 0;
            for (int p = 0; p < codes.length; p++) {
                if (codes[p] >= FIRST_PREDICATE) {
                    heads++;
                }
            }
            int[] starts = new int[heads + 1];
            int found = 0;
            for (int p = 0; p < codes.length; p++) {
                if (codes[p] >= FIRST_PREDICATE && found < heads) {
                    starts[found] = p;
                    found++;
                }
            }
            starts[heads] = codes.length;
            return starts;
        }

        private static void measureAll(int[] codes, int[] depths, int[] measures) {
            int sign = 0;
            for (int p = 0; p < codes.length && p < depths.length; p++) {
                int code = codes[p];
                if (code >= FIRST_PREDICATE) {
                    sign = code & 1;
                    raise(measures, code - FIRST_PREDICATE, 1, 0);
                } else if (code < SYMBOLS) {
                    raise(measures, COUNTS_OF_SYMBOLS + 2 * code + sign, 1, 0);
                    raise(measures, DEPTHS_OF_SYMBOLS + 2 * code + sign, 0, depths[p]);
                }
            }
        }

        private static void raise(int[] measures, int feature, int more, int least) {
            if (feature >= 0 && feature < measures.length) {
                measures[feature] = Math.max(measures[feature] + more, least);
            }
        }

        int size() {
            return starts.length - 1;
        }

        int symbols() {
            return codes.length;
        }

        boolean has(int i) {
            return i >= 0 && i < size();
        }

        int start(int i) {
            return i >= 0 && i < starts.length ? starts[i] : codes.length;
        }

        int codeAt(int p) {
            return p >= 0 && p < codes.length ? codes[p] : NONE;
        }

        int depthAt(int p) {
            return p >= 0 && p < depths.length ? depths[p] : 0;
        }

        int endOfTerm(int start) {
            return start >= 0 && start < ends.length ? ends[start] : codes.length;
        }

        int variableBits() {
            int bits = 0;
            for (int p = 0; p < codes.length; p++) {
                if (isVariable(codes[p])) {
                    bits |= 1 << codes[p] - FIRST_VARIABLE;
                }
            }
            return bits;
        }

        int measure(int feature, int mode) {
            return isFeature(feature) ? byMode(feature, measures[feature], mode) : 0;
        }

        /** Whether as many symbols from p and from q on are the same. */
        boolean sameRun(int p, int q, int size) {
            if (p < 0 || q < 0 || p + size > codes.length || q + size > codes.length) {
                return false;
            }
            for (int i = 0; i < size; i++) {
                if (codes[p + i] != codes[q + i]) {
                    return false;
                }
            }
            return true;
        }

        /** Whether two literals are the same but for the sign of one. */
        boolean opposite(int i, int j) {
            int size = start(i + 1) - start(i);
            return (codeAt(start(i)) ^ codeAt(start(j))) == 1
                && size == start(j + 1) - start(j)
                && sameRun(start(i) + 1, start(j) + 1, size - 1);
        }
    }

    /** Symbols one behind another, on the way to a clause or a put. */
    private static final class Draft {
        private final int[] codes = new int[MOST_SYMBOLS];
        private final int[] depths = new int[MOST_SYMBOLS];
        private int size;

        int size() {
            return size;
        }

        void empty() {
            size = 0;
        }

        int codeAt(int p) {
            return p >= 0 && p < size ? codes[p] : NONE;
        }

        int depthAt(int p) {
            return p >= 0 && p < size ? depths[p] : 0;
        }

        boolean isFull() {
            return size >= MOST_SYMBOLS;
        }

        /** False, and nothing changes, if the document's limits forbid one more symbol there. */
        boolean push(int code, int depth) {
            if (size < 0 || size >= MOST_SYMBOLS || depth > MOST_DEPTH) {
                return false;
            }
            codes[size] = code;
            depths[size] = depth;
            size++;
            return true;
        }

        void load(Clause c) {
            empty();
            for (int p = 0; p < c.symbols(); p++) {
                push(c.codeAt(p), c.depthAt(p));
            }
        }

        void loadWithout(Draft from, int start, int end) {
            empty();
            for (int p = 0; p < from.size(); p++) {
                if (p < start || p >= end) {
                    push(from.codeAt(p), from.depthAt(p));
                }
            }
        }

        /** Takes another draft over, a term of a third one (or of that one) in place of a variable; false: too much. */
        boolean loadPut(Draft from, int variable, Draft source, int start, int end) {
            empty();
            boolean fits = true;
            for (int p = 0; p < from.size() && fits; p++) {
                if (from.codeAt(p) == variable) {
                    fits = pushTerm(source, start, end, from.depthAt(p));
                } else {
                    fits = push(from.codeAt(p), from.depthAt(p));
                }
            }
            return fits;
        }

        private boolean pushTerm(Draft source, int start, int end, int depth) {
            int deeper = depth - source.depthAt(start);
            boolean fits = true;
            for (int p = start; p < end && fits; p++) {
                fits = push(source.codeAt(p), source.depthAt(p) + deeper);
            }
            return fits;
        }

        int times(int code, int start, int end) {
            int found = 0;
            for (int p = start; p < end; p++) {
                if (codeAt(p) == code) {
                    found++;
                }
            }
            return found;
        }

        /** The place behind the term that begins at a place. */
        int endOfTerm(int start) {
            int open = 1;
            int p = Math.max(start, 0);
            while (open > 0 && p < size) {
                open += termsBehind(codeAt(p)) - 1;
                p++;
            }
            return p;
        }

        /** Where literal i begins; behind the last one, where the draft ends. */
        int startOf(int i) {
            int ahead = 0;
            for (int p = 0; p < size; p++) {
                if (codeAt(p) >= FIRST_PREDICATE) {
                    if (ahead == i) {
                        return p;
                    }
                    ahead++;
                }
            }
            return size;
        }
    }

    /** The tape, and what the latest text on it was. */
    private static final class Reader {
        private final int[] bytes = new int[MOST_BYTES];
        private final Draft draft = new Draft();
        private int size;
        private int end;
        private int here;
        private int fault;
        private int place = NONE;

        int onTape() {
            return size;
        }

        int latestFault() {
            return fault;
        }

        int latestPlace() {
            return place;
        }

        Draft symbolsRead() {
            return draft;
        }

        void putWord(int word) {
            for (int shift = 24; shift >= 0; shift -= 8) {
                if (size >= 0 && size < MOST_BYTES) {
                    bytes[size] = word >>> shift & 255;
                    size++;
                }
            }
        }

        boolean readClause(int n) {
            begin(n);
            if (end == 0) {
                return true;
            }
            for (int i = 1; i <= MOST_LITERALS; i++) {
                if (!readLiteral()) {
                    return false;
                }
                if (here == end) {
                    return true;
                }
                if (look() != '|') {
                    return fail(FAULT_BYTE);
                }
                if (i < MOST_LITERALS) {
                    here++;
                }
            }
            return fail(FAULT_LITERALS);
        }

        boolean readPut(int n) {
            begin(n);
            int code = termCode(look());
            if (!isVariable(code)) {
                return fail(FAULT_BYTE);
            }
            return readSymbol(code, 0) && expect('=') && readTerm(1) && (here == end || fail(FAULT_BYTE));
        }

        /** The tape is empty behind every text that is read, whatever it is. */
        private void begin(int n) {
            end = Math.min(n, size);
            size = 0;
            here = 0;
            fault = 0;
            place = NONE;
            draft.empty();
        }

        private boolean fail(int which) {
            fault = which;
            place = here;
            return false;
        }

        private int look() {
            return here >= 0 && here < end && here < MOST_BYTES ? bytes[here] : NONE;
        }

        private boolean expect(int sign) {
            if (look() != sign) {
                return fail(FAULT_BYTE);
            }
            here++;
            return true;
        }

        private boolean readLiteral() {
            int sign = 0;
            if (look() == '-') {
                sign = 1;
                here++;
            }
            int predicate = look() - 'p';
            if (predicate < 0 || predicate >= PREDICATE_TERMS.length) {
                return fail(FAULT_BYTE);
            }
            return readSymbol(FIRST_PREDICATE + 2 * predicate + sign, 0) && readTerms(PREDICATE_TERMS[predicate], 1);
        }

        private boolean readTerms(int terms, int depth) {
            if (terms == 0) {
                return true;
            }
            if (!expect('(') || !readTerm(depth)) {
                return false;
            }
            if (terms == 2 && !(expect(',') && readTerm(depth))) {
                return false;
            }
            return expect(')');
        }

        private boolean readTerm(int depth) {
            int code = termCode(look());
            if (code == NONE) {
                return fail(FAULT_BYTE);
            }
            return readSymbol(code, depth) && readTerms(termsBehind(code), depth + 1);
        }

        private boolean readSymbol(int code, int depth) {
            if (draft.isFull()) {
                return fail(FAULT_SYMBOLS);
            }
            if (!draft.push(code, depth)) {
                return fail(FAULT_DEPTH);
            }
            here++;
            return true;
        }

        private static int termCode(int sign) {
            if (sign >= 'u' && sign <= 'z') {
                return FIRST_VARIABLE + sign - 'u';
            }
            if (sign >= 'f' && sign <= 'h') {
                return sign - 'f';
            }
            return sign >= 'a' && sign <= 'e' ? FIRST_CONSTANT + sign - 'a' : NONE;
        }
    }

    /** Looks for the ways by which a clause covers another one, the least row first. */
    private static final class Matcher {
        private final int[] row = new int[MOST_LITERALS];
        private final int[] terms = new int[VARIABLES];
        private int last;
        private int enough;
        private int found;
        private int put;
        private int taken;
        private boolean apart;
        private boolean renaming;

        boolean findsFirst(Clause c, Clause d, int mode) {
            aim(c, mode == 1);
            settle(c, d, 0, allOf(d));
            return found > 0;
        }

        int countAll(Clause c, Clause d, int mode) {
            aim(c, mode == 1);
            enough = ENDLESS;
            settle(c, d, 0, allOf(d));
            return found;
        }

        boolean findsForOne(Clause c, int i, Clause d) {
            aim(c, false);
            last = i;
            settle(c, d, i, allOf(d));
            return found > 0;
        }

        /** Whether c covers those literals of d alone that the bits tell. */
        boolean findsAmong(Clause c, Clause d, int bits) {
            aim(c, false);
            settle(c, d, 0, bits);
            return found > 0;
        }

        boolean findsRenaming(Clause c, Clause d) {
            if (c.size() != d.size()) {
                return false;
            }
            aim(c, true);
            renaming = true;
            settle(c, d, 0, allOf(d));
            return found > 0;
        }

        /** Which literal of d the i-th one of c is by the way found. */
        int placeOf(int i) {
            return i >= 0 && i < MOST_LITERALS ? row[i] : NONE;
        }

        /** Where in d the term begins that is put for a variable by the way found. */
        int termOf(int v) {
            return isPut(v) ? terms[v] : NONE;
        }

        private boolean isPut(int v) {
            return v >= 0 && v < VARIABLES && (put >> v & 1) == 1;
        }

        private static int allOf(Clause d) {
            return (1 << d.size()) - 1;
        }

        private void aim(Clause c, boolean eachOnce) {
            apart = eachOnce;
            renaming = false;
            last = c.size() - 1;
            enough = 1;
            found = 0;
            put = 0;
            taken = 0;
        }

        /** Tries places for literal i and those behind it; as soon as enough is found, all stays as it is then. */
        private void settle(Clause c, Clause d, int i, int free) {
            if (i > last) {
                found++;
                return;
            }
            if (i < 0 || i >= MOST_LITERALS) {
                return;
            }
            int putBefore = put;
            int takenBefore = taken;
            for (int j = 0; j < d.size(); j++) {
                if ((free >> j & 1) == 1 && fits(c, d, i, j)) {
                    row[i] = j;
                    settle(c, d, i + 1, apart ? free & ~(1 << j) : free);
                    if (found >= enough) {
                        return;
                    }
                }
                put = putBefore;
                taken = takenBefore;
            }
        }

        private boolean fits(Clause c, Clause d, int i, int j) {
            int end = c.start(i + 1);
            int q = d.start(j);
            for (int p = c.start(i); p < end; p++) {
                int code = c.codeAt(p);
                int behind = q + 1;
                if (isVariable(code)) {
                    behind = d.endOfTerm(q);
                    if (!binds(d, code - FIRST_VARIABLE, q, behind)) {
                        return false;
                    }
                } else if (code != d.codeAt(q)) {
                    return false;
                }
                q = behind;
            }
            return true;
        }

        /** Whether the term of d from q on is, or can now be, what is put for a variable. */
        private boolean binds(Clause d, int v, int q, int behind) {
            if (isPut(v)) {
                return d.sameRun(terms[v], q, behind - q);
            }
            int name = d.codeAt(q) - FIRST_VARIABLE;
            if (v < 0 || v >= VARIABLES || renaming && (name < 0 || (taken >> name & 1) == 1)) {
                return false;
            }
            terms[v] = q;
            put |= 1 << v;
            if (renaming) {
                taken |= 1 << name;
            }
            return true;
        }
    }

    /** What can be undone: the clauses kept and the order of features. */
    private static final class State {
        private final Clause[] kept = new Clause[MOST_KEPT];
        private final int[] features = new int[MOST_ORDER];
        private int laid;

        Clause clause(int k) {
            return k >= 0 && k < MOST_KEPT ? kept[k] : null;
        }

        void store(int k, Clause c) {
            if (k >= 0 && k < MOST_KEPT) {
                kept[k] = c;
            }
        }

        void drop(int bits) {
            for (int k = 0; k < MOST_KEPT; k++) {
                if ((bits >> k & 1) == 1) {
                    kept[k] = null;
                }
            }
        }

        int lowestFree() {
            for (int k = 0; k < MOST_KEPT; k++) {
                if (kept[k] == null) {
                    return k;
                }
            }
            return NONE;
        }

        int numbers() {
            int bits = 0;
            for (int k = 0; k < MOST_KEPT; k++) {
                if (kept[k] != null) {
                    bits |= 1 << k;
                }
            }
            return bits;
        }

        int laid() {
            return laid;
        }

        int featureAt(int i) {
            return i >= 0 && i < laid && i < MOST_ORDER ? features[i] : NONE;
        }

        boolean isLaid(int feature) {
            for (int i = 0; i < laid; i++) {
                if (featureAt(i) == feature) {
                    return true;
                }
            }
            return false;
        }

        void append(int feature) {
            if (laid >= 0 && laid < MOST_ORDER) {
                features[laid] = feature;
                laid++;
            }
        }

        void dropLast() {
            if (laid > 0) {
                laid--;
            }
        }

        boolean isOrder(int[] wanted, int n) {
            if (n != laid) {
                return false;
            }
            for (int i = 0; i < n && i < wanted.length; i++) {
                if (wanted[i] != featureAt(i)) {
                    return false;
                }
            }
            return true;
        }

        void layAll(int[] wanted, int n) {
            laid = 0;
            for (int i = 0; i < n && i < wanted.length; i++) {
                append(wanted[i]);
            }
        }

        void copy(State other) {
            for (int k = 0; k < MOST_KEPT; k++) {
                kept[k] = other.clause(k);
            }
            laid = 0;
            for (int i = 0; i < other.laid(); i++) {
                append(other.featureAt(i));
            }
        }

        /** The least value by mode 1 that one of those clauses has. */
        int leastOf(int bits, int feature) {
            int least = ENDLESS;
            for (int k = 0; k < MOST_KEPT; k++) {
                if ((bits >> k & 1) == 1 && kept[k] != null) {
                    least = Math.min(least, kept[k].measure(feature, 1));
                }
            }
            return least;
        }

        /** Those of the clauses that have that value by mode 1. */
        int having(int bits, int feature, int value) {
            int found = 0;
            for (int k = 0; k < MOST_KEPT; k++) {
                if ((bits >> k & 1) == 1 && kept[k] != null && kept[k].measure(feature, 1) == value) {
                    found |= 1 << k;
                }
            }
            return found;
        }
    }

    /** The latest states, as many as can be undone, in a ring. */
    private static final class History {
        private final State[] states = new State[MOST_UNDONE];
        private int next;
        private int size;

        History() {
            for (int i = 0; i < MOST_UNDONE; i++) {
                states[i] = new State();
            }
        }

        int size() {
            return size;
        }

        void note(State state) {
            if (next < 0 || next >= MOST_UNDONE) {
                return;
            }
            states[next].copy(state);
            next = Math.floorMod(next + 1, MOST_UNDONE);
            size = Math.min(size + 1, MOST_UNDONE);
        }

        void goBack(int n, State into) {
            if (n < 1 || n > size) {
                return;
            }
            next = Math.floorMod(next - n, MOST_UNDONE);
            size -= n;
            into.copy(states[next]);
        }

        void forget() {
            size = 0;
        }
    }

    /** The tree of the clauses kept, its nodes in rows by their numbers. */
    private static final class Tree {
        private final int[] levels = new int[MOST_NODES];
        private final int[] values = new int[MOST_NODES];
        private final int[] children = new int[MOST_NODES];
        private final int[] members = new int[MOST_NODES];
        private int size;
        private int reached;

        void grow(State state) {
            size = 0;
            branch(state, state.numbers(), 0, NONE);
        }

        private void branch(State state, int bits, int level, int value) {
            if (size < 0 || size >= MOST_NODES || level > MOST_ORDER) {
                return;
            }
            int me = size;
            size++;
            levels[me] = level;
            values[me] = value;
            members[me] = bits;
            children[me] = 0;
            int feature = state.featureAt(level);
            if (feature == NONE) {
                return;
            }
            int rest = bits;
            for (int i = 0; i < MOST_KEPT && rest != 0; i++) {
                int least = state.leastOf(rest, feature);
                int part = state.having(rest, feature, least);
                children[me]++;
                branch(state, part, level + 1, least);
                rest &= ~part;
            }
        }

        int size() {
            return size;
        }

        int levelOf(int i) {
            return i >= 0 && i < MOST_NODES ? levels[i] : NONE;
        }

        int valueOf(int i) {
            return i >= 0 && i < MOST_NODES ? values[i] : NONE;
        }

        int childrenOf(int i) {
            return i >= 0 && i < MOST_NODES ? children[i] : 0;
        }

        int membersOf(int i) {
            return i >= 0 && i < MOST_NODES ? members[i] : 0;
        }

        /** The node on the last level below which a clause is. */
        int endOf(int k, int lastLevel) {
            for (int i = 0; i < size; i++) {
                if (levelOf(i) == lastLevel && (membersOf(i) >> k & 1) == 1) {
                    return i;
                }
            }
            return NONE;
        }

        /** How many nodes are visited; the clauses at the last ones of them are the reached bits then. */
        int walk(State state, Clause query, int way, int mode) {
            reached = 0;
            int seen = 0;
            int deepest = MOST_ORDER;
            for (int i = 0; i < size; i++) {
                int level = levelOf(i);
                if (level > deepest) {
                    continue;
                }
                if (!passes(i, state.featureAt(level - 1), query, way, mode)) {
                    deepest = level;
                    continue;
                }
                deepest = MOST_ORDER;
                seen++;
                if (level == state.laid()) {
                    reached |= membersOf(i);
                }
            }
            return seen;
        }

        private boolean passes(int i, int feature, Clause query, int way, int mode) {
            if (i == 0) {
                return true;
            }
            int mine = byMode(feature, valueOf(i), mode);
            int wanted = query.measure(feature, mode);
            return way == 0 ? mine <= wanted : mine >= wanted;
        }

        int reachedBits() {
            return reached;
        }
    }

    /** How well features part the clauses kept, by one mode at a time. */
    private static final class Parting {
        private final int[][] notAbove = new int[FEATURES][MOST_KEPT];
        private final int[] left = new int[MOST_KEPT];
        private final int[] values = new int[MOST_KEPT];
        private final int[] powers = new int[FEATURES];
        private int leftByTwo;
        private int lowerOfTwo;
        private int higherOfTwo;

        /** How many two clauses have unlike values. */
        int unlike(State state, int feature, int mode) {
            readValues(state, feature, mode);
            int found = 0;
            for (int a = 0; a < MOST_KEPT; a++) {
                int mine = values[a];
                for (int b = 0; mine != NONE && b < a; b++) {
                    if (values[b] != NONE && values[b] != mine) {
                        found++;
                    }
                }
            }
            return found;
        }

        void strongest(State state, int mode, int[] chosen, int n) {
            for (int f = 0; f < FEATURES; f++) {
                powers[f] = unlike(state, f, mode);
            }
            for (int i = 0; i < n && i < chosen.length; i++) {
                int best = 0;
                for (int f = 1; f < FEATURES; f++) {
                    if (powers[f] > powers[best]) {
                        best = f;
                    }
                }
                chosen[i] = best;
                powers[best] = NONE;
            }
        }

        /** How many pairs the order leaves. */
        int leftByOrder(State state, int mode) {
            leaveAll(state);
            for (int i = 0; i < state.laid(); i++) {
                int feature = state.featureAt(i);
                compare(state, feature, mode);
                narrow(feature);
            }
            return leftWith(NONE);
        }

        /** Chooses feature by feature, each time the one that leaves fewest pairs: how many are left at the end. */
        int closest(State state, int mode, int[] chosen, int n) {
            compareAll(state, mode);
            leaveAll(state);
            for (int i = 0; i < n && i < chosen.length; i++) {
                int best = NONE;
                int fewest = ENDLESS;
                for (int f = 0; f < FEATURES; f++) {
                    int pairs = leftWith(f);
                    if (pairs < fewest && !isAmong(chosen, i, f)) {
                        best = f;
                        fewest = pairs;
                    }
                }
                chosen[i] = best;
                narrow(best);
            }
            return leftWith(NONE);
        }

        void bestTwo(State state, int mode) {
            compareAll(state, mode);
            leftByTwo = ENDLESS;
            for (int f = 0; f < FEATURES; f++) {
                leaveAll(state);
                narrow(f);
                for (int g = f + 1; g < FEATURES; g++) {
                    int pairs = leftWith(g);
                    if (pairs < leftByTwo) {
                        leftByTwo = pairs;
                        lowerOfTwo = f;
                        higherOfTwo = g;
                    }
                }
            }
        }

        int leftByTwo() {
            return leftByTwo;
        }

        int lowerOfTwo() {
            return lowerOfTwo;
        }

        int higherOfTwo() {
            return higherOfTwo;
        }

        private static boolean isAmong(int[] chosen, int n, int feature) {
            for (int i = 0; i < n && i < chosen.length; i++) {
                if (chosen[i] == feature) {
                    return true;
                }
            }
            return false;
        }

        private void compareAll(State state, int mode) {
            for (int f = 0; f < FEATURES; f++) {
                compare(state, f, mode);
            }
        }

        /** Notes for each clause those whose value isn't below its own. */
        private void compare(State state, int feature, int mode) {
            if (!isFeature(feature)) {
                return;
            }
            readValues(state, feature, mode);
            int[] row = notAbove[feature];
            for (int a = 0; a < MOST_KEPT && a < row.length; a++) {
                int mine = values[a];
                int bits = 0;
                for (int b = 0; mine != NONE && b < MOST_KEPT; b++) {
                    if (mine <= values[b]) {
                        bits |= 1 << b;
                    }
                }
                row[a] = bits;
            }
        }

        /** The values of one feature, NONE where no clause is kept: no value is below it. */
        private void readValues(State state, int feature, int mode) {
            for (int k = 0; k < MOST_KEPT; k++) {
                Clause c = state.clause(k);
                values[k] = c == null ? NONE : c.measure(feature, mode);
            }
        }

        private void leaveAll(State state) {
            int all = state.numbers();
            for (int a = 0; a < MOST_KEPT; a++) {
                left[a] = (all >> a & 1) == 1 ? all & ~(1 << a) : 0;
            }
        }

        private void narrow(int feature) {
            int[] row = isFeature(feature) ? notAbove[feature] : left;
            for (int a = 0; a < MOST_KEPT && a < row.length; a++) {
                left[a] &= row[a];
            }
        }

        /** How many pairs would be left with one feature more, or, if that is NONE, are left now. */
        private int leftWith(int feature) {
            int[] row = isFeature(feature) ? notAbove[feature] : left;
            int sum = 0;
            for (int a = 0; a < MOST_KEPT && a < row.length; a++) {
                sum += Integer.bitCount(left[a] & row[a]);
            }
            return sum;
        }
    }

    /** Which clauses kept cover which others by one mode, as bits. */
    private static final class Relation {
        private final int[] covered = new int[MOST_KEPT];
        private final int[] coverers = new int[MOST_KEPT];
        private final int[] lengths = new int[MOST_KEPT];
        private final int[] row = new int[MOST_KEPT];
        private int all;
        private boolean known;

        boolean isKnown() {
            return known;
        }

        void forget() {
            known = false;
        }

        void begin(int numbers) {
            known = true;
            all = numbers;
            for (int k = 0; k < MOST_KEPT; k++) {
                covered[k] = 0;
                coverers[k] = 0;
            }
        }

        void note(int a, int b) {
            if (a >= 0 && a < MOST_KEPT && b >= 0 && b < MOST_KEPT) {
                covered[a] |= 1 << b;
                coverers[b] |= 1 << a;
            }
        }

        /** How many ordered pairs there are of which the one covers the other one. */
        int size() {
            int sum = 0;
            for (int a = 0; a < MOST_KEPT; a++) {
                sum += Integer.bitCount(covered[a]);
            }
            return sum;
        }

        int spareOnes() {
            int bits = 0;
            for (int k = 0; k < MOST_KEPT; k++) {
                int lower = (1 << k) - 1;
                if ((coverers[k] & (~covered[k] | lower)) != 0) {
                    bits |= 1 << k;
                }
            }
            return bits;
        }

        int mostGeneral() {
            int bits = 0;
            for (int k = 0; k < MOST_KEPT; k++) {
                if ((all >> k & 1) == 1 && (coverers[k] & ~covered[k]) == 0) {
                    bits |= 1 << k;
                }
            }
            return bits;
        }

        int classes() {
            int found = 0;
            for (int k = 0; k < MOST_KEPT; k++) {
                int lower = (1 << k) - 1;
                if ((all >> k & 1) == 1 && (covered[k] & coverers[k] & lower) == 0) {
                    found++;
                }
            }
            return found;
        }

        /** Lays out the least of the longest chains: how long it is. */
        int layLongestRow() {
            measureRows();
            int from = all;
            int size = 0;
            for (int i = 0; i < MOST_KEPT && from != 0; i++) {
                int k = firstOfLongest(from);
                row[i] = k;
                size++;
                from = covered[k] & ~coverers[k];
            }
            return size;
        }

        int inRow(int i) {
            return i >= 0 && i < MOST_KEPT ? row[i] : NONE;
        }

        /** No clause is more general than itself in a roundabout way, so as many rounds are enough. */
        private void measureRows() {
            for (int a = 0; a < MOST_KEPT; a++) {
                lengths[a] = 1;
            }
            boolean grown = true;
            for (int round = 0; round < MOST_KEPT && grown; round++) {
                grown = false;
                for (int a = 0; a < MOST_KEPT; a++) {
                    int lessGeneral = covered[a] & ~coverers[a];
                    int length = lessGeneral == 0 ? 1 : 1 + lengths[firstOfLongest(lessGeneral)];
                    if (length > lengths[a]) {
                        lengths[a] = length;
                        grown = true;
                    }
                }
            }
        }

        /** The lowest of those clauses from which the longest chain goes on. */
        private int firstOfLongest(int bits) {
            int best = 0;
            int longest = 0;
            for (int k = 0; k < MOST_KEPT; k++) {
                if ((bits >> k & 1) == 1 && lengths[k] > longest) {
                    best = k;
                    longest = lengths[k];
                }
            }
            return best;
        }
    }
}
