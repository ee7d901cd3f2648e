import java.util.Arrays;

/**
 * Rules that write terms anew, judged before they are used: whether they end by weights, which
 * pairs of them part and are joined again, whether one follows from the others or falls at small
 * tables.
 */
public final class RewriteChecks {
    public static final int NONE = -1, BAD = -2, STATE = -3, FULL = -4, OPEN = -5;

    private static final int MOST_SIGNS = 10;
    private static final int MOST_ARITY = 2;
    private static final int MOST_SIGN_WEIGHT = 9;
    private static final int VARIABLES = 8;
    private static final int RULE_VARIABLES = 4;
    private static final int MOST_TERMS = 1000;
    private static final int MOST_RULES = 16;
    private static final int MOST_SMALL_SIZE = 30;
    private static final int MOST_STEPS = 100;
    private static final int MOST_PAIRS = 60;
    private static final int MOST_VALUES = 3;
    private static final long MOST_NUMBER = 1_000_000_000_000_000L;
    private static final long PLACES_END = 100_000_000_000_000_000L;

    // A TERM's head is its SIGN, or this and its VARIABLE.
    private static final int FIRST_VARIABLE = MOST_SIGNS;
    private static final int HEADS = FIRST_VARIABLE + VARIABLES;

    // Far above what any walk can need; it only shows that the walk ends.
    private static final int MOST_LOOKS = 1_000_000;

    private static final int REFUTED = 0, PROVED = 1, TRIED = 2, UNDECIDED = 3;

    private final Terms bank;
    private final Rules ruleBook;
    private final Rewriter rewriter;
    private final Order order;
    private final PairMaker pairMaker;
    private final Tables truth;
    private final Steps latestSteps;

    public RewriteChecks() {
        Terms terms = new Terms();
        Rules rules = new Rules();
        bank = terms;
        ruleBook = rules;
        rewriter = new Rewriter(terms, rules);
        order = new Order(terms);
        pairMaker = new PairMaker(terms, rules);
        truth = new Tables(terms);
        latestSteps = new Steps();
    }

    public int sign(int arity, int weight) {
        if (arity < 0 || arity > MOST_ARITY || weight < 1 || weight > MOST_SIGN_WEIGHT) {
            return BAD;
        }
        return bank.addSign(arity, weight);
    }

    public int variable(int v) {
        return isWithin(v, VARIABLES) ? bank.make(FIRST_VARIABLE + v, NONE, NONE) : BAD;
    }

    public int term(int sign, int a, int b) {
        if (!isWithin(sign, bank.signs)) {
            return BAD;
        }
        int arity = bank.arity[sign];
        if (arity > 0 && !isTerm(a) || arity > 1 && !isTerm(b)) {
            return BAD;
        }
        return bank.make(sign, arity > 0 ? a : NONE, arity > 1 ? b : NONE);
    }

    public int rule(int left, int right) {
        if (!isTerm(left) || !isTerm(right)) {
            return BAD;
        }
        if (!bank.makesRule(left, right)) {
            return STATE;
        }
        return ruleBook.add(left, right);
    }

    public int on(int rule, boolean is) {
        if (!isRule(rule)) {
            return BAD;
        }
        boolean was = ruleBook.isOn[rule];
        ruleBook.isOn[rule] = is;
        return was ? 1 : 0;
    }

    public int step(int term, int way) {
        if (!isTerm(term) || !isWithin(way, 2)) {
            return BAD;
        }
        int before = bank.terms;
        rewriter.begin(NONE);
        return keepSteps(rewriter.rewriteOnce(term, way), before);
    }

    public int normal(int term, int way) {
        if (!isTerm(term) || !isWithin(way, 2)) {
            return BAD;
        }
        int before = bank.terms;
        rewriter.begin(NONE);
        return keepSteps(rewriter.reduce(term, way), before);
    }

    public long used(int k, int what) {
        if (!isWithin(what, 2)) {
            return BAD;
        }
        if (k == NONE) {
            return latestSteps.many;
        }
        if (!isWithin(k, latestSteps.many)) {
            return NONE;
        }
        return what == 0 ? latestSteps.rule[k] : latestSteps.place[k];
    }

    public int ends(int rule) {
        if (!isRule(rule)) {
            return BAD;
        }
        return order.isAbove(ruleBook.left[rule], ruleBook.right[rule], 1) ? 1 : 0;
    }

    public int above(int s, int t) {
        if (!isTerm(s) || !isTerm(t)) {
            return BAD;
        }
        if (!bank.isSmall(s) || !bank.isSmall(t)) {
            return STATE;
        }
        return order.isAbove(s, t, 1) ? 1 : 0;
    }

    public int pairs() {
        int before = bank.terms;
        return undoIfFull(pairMaker.tellAnew(), before);
    }

    public long pair(int k, int what) {
        if (!isWithin(k, pairMaker.told.many) || !isWithin(what, 6)) {
            return BAD;
        }
        if (what < 5) {
            return pairMaker.told.read(k, what);
        }
        int before = bank.terms;
        int joined = rewriter.joins(pairMaker.told.firstOf(k), pairMaker.told.secondOf(k), NONE);
        return undoIfFull(joined, before);
    }

    public int tables(int n) {
        if (n < 1 || n > MOST_VALUES) {
            return BAD;
        }
        truth.begin(n);
        return n;
    }

    public int cell(int sign, int a, int b, int v) {
        if (truth.values == 0) {
            return STATE;
        }
        if (!isWithin(sign, bank.signs) || !isValue(v)) {
            return BAD;
        }
        int arity = bank.arity[sign];
        if (arity > 0 && !isValue(a) || arity > 1 && !isValue(b)) {
            return BAD;
        }
        return truth.write(sign, arity > 0 ? a : 0, arity > 1 ? b : 0, v);
    }

    public int has(int variable, int v) {
        if (truth.values == 0) {
            return STATE;
        }
        if (!isWithin(variable, VARIABLES) || !isValue(v)) {
            return BAD;
        }
        int had = truth.given[variable];
        truth.given[variable] = v;
        return had;
    }

    public int value(int term) {
        if (truth.values == 0) {
            return STATE;
        }
        return isTerm(term) ? truth.valueOf(term) : BAD;
    }

    public int judge(int rule) {
        if (!isRule(rule)) {
            return BAD;
        }
        int left = ruleBook.left[rule];
        int right = ruleBook.right[rule];
        int before = bank.terms;
        int joined = undoIfFull(rewriter.joins(left, right, rule), before);
        if (joined == FULL) {
            return FULL;
        }
        truth.isRefuted = false;
        if (joined == 1) {
            return PROVED;
        }
        if (truth.values == 0) {
            return UNDECIDED;
        }
        truth.isRefuted = truth.refutes(left, right);
        return truth.isRefuted ? REFUTED : TRIED;
    }

    public int refuted(int variable) {
        if (!isWithin(variable, RULE_VARIABLES)) {
            return BAD;
        }
        return truth.isRefuted ? truth.tried[variable] : NONE;
    }

    public long of(int term, int what, int i) {
        if (!isTerm(term) || !isWithin(what, 5) || what == 4 && !isWithin(i, VARIABLES)) {
            return BAD;
        }
        int head = bank.head[term];
        switch (what) {
            case 0:
                return head < FIRST_VARIABLE ? head : NONE;
            case 1:
                return head < FIRST_VARIABLE ? NONE : head - FIRST_VARIABLE;
            case 2:
                return bank.size[term];
            case 3:
                return bank.weight[term];
            default:
                return bank.howOften(term, i);
        }
    }

    public int part(int term, int i) throws ArrayIndexOutOfBoundsException {
        if (!isTerm(term)) {
            return BAD;
        }
        if (!isWithin(i, bank.arity[bank.head[term]])) {
            throw new ArrayIndexOutOfBoundsException("no such PART");
        }
        return i == 0 ? bank.first[term] : bank.second[term];
    }

    public int count(int what) {
        switch (what) {
            case 0:
                return bank.signs;
            case 1:
                return bank.terms;
            case 2:
                return ruleBook.many;
            case 3:
                return pairMaker.told.many;
            case 4:
                return truth.values;
            default:
                return BAD;
        }
    }

    public int clear() {
        int there = bank.terms;
        bank.shrinkTo(0);
        bank.signs = 0;
        ruleBook.many = 0;
        pairMaker.told.many = 0;
        truth.values = 0;
        truth.isRefuted = false;
        latestSteps.many = 0;
        return there;
    }

    private static boolean isWithin(int number, int end) {
        return number >= 0 && number < end;
    }

    private boolean isTerm(int number) {
        return isWithin(number, bank.terms);
    }

    private boolean isRule(int number) {
        return isWithin(number, ruleBook.many);
    }

    // OPEN counts as the VALUE behind the last one.
    private boolean isValue(int number) {
        return isWithin(number, truth.values + 1);
    }

    private int keepSteps(int answer, int before) {
        if (answer != FULL) {
            latestSteps.copyFrom(rewriter.done);
        }
        return undoIfFull(answer, before);
    }

    private int undoIfFull(int answer, int before) {
        if (answer == FULL) {
            bank.shrinkTo(before);
        }
        return answer;
    }

    private static long placeOfPart(long place, int i) {
        long inner = 3 * place + i;
        return place == 0 || inner >= PLACES_END ? 0 : inner;
    }

    /** SIGNS, and TERMS of which no two are the same; PARTS have lower numbers than their TERM. */
    private static final class Terms {
        private static final int BUCKETS = 256;

        int signs;
        int terms;
        final int[] arity = new int[HEADS];
        final int[] headWeight = new int[HEADS];
        final int[] head = new int[MOST_TERMS];
        final int[] first = new int[MOST_TERMS];
        final int[] second = new int[MOST_TERMS];
        final long[] size = new long[MOST_TERMS];
        final long[] weight = new long[MOST_TERMS];
        // A bit for each VARIABLE that stands in the TERM.
        final int[] variables = new int[MOST_TERMS];
        // The newest TERM of each bucket, and the next older one of the same; 1 greater, 0 is none.
        private final int[] newest = new int[BUCKETS];
        private final int[] older = new int[MOST_TERMS];
        // What a sweep over TERMS has found of each; every sweep begins anew.
        final long[] swept = new long[MOST_TERMS];

        Terms() {
            for (int h = FIRST_VARIABLE; h < HEADS; h++) {
                headWeight[h] = 1;
            }
        }

        int addSign(int itsArity, int itsWeight) {
            if (signs >= MOST_SIGNS) {
                return FULL;
            }
            arity[signs] = itsArity;
            headWeight[signs] = itsWeight;
            signs++;
            return signs - 1;
        }

        boolean isVariable(int term) {
            return head[term] >= FIRST_VARIABLE;
        }

        boolean isSmall(int term) {
            return size[term] <= MOST_SMALL_SIZE;
        }

        boolean makesRule(int left, int right) {
            int beyond = -1 << RULE_VARIABLES;
            return !isVariable(left)
                    && (variables[left] & beyond) == 0
                    && (variables[right] & ~variables[left]) == 0
                    && isSmall(left)
                    && isSmall(right);
        }

        /** The TERM's number, an old one if it is there already, or FULL. */
        int make(int itsHead, int a, int b) {
            int bucket = bucketOf(itsHead, a, b);
            int there = find(bucket, itsHead, a, b);
            if (there != NONE) {
                return there;
            }
            if (terms >= MOST_TERMS) {
                return FULL;
            }
            int made = terms;
            terms++;
            head[made] = itsHead;
            first[made] = a;
            second[made] = b;
            older[made] = newest[bucket];
            newest[bucket] = made + 1;
            measure(made);
            return made;
        }

        /** Takes back the newest TERMS; newest first, so that each stands ahead in its bucket. */
        void shrinkTo(int many) {
            for (int t = terms - 1; t >= many; t--) {
                newest[bucketOf(head[t], first[t], second[t])] = older[t];
            }
            terms = many;
        }

        /** By one sweep over all lower numbers, as a TERM's tree may be too large to be walked. */
        long howOften(int term, int v) {
            for (int t = 0; t <= term; t++) {
                long sum = 0;
                if ((variables[t] >> v & 1) == 1) {
                    sum = isVariable(t) ? 1 : 0;
                    sum += first[t] == NONE ? 0 : swept[first[t]];
                    sum += second[t] == NONE ? 0 : swept[second[t]];
                }
                swept[t] = sum > MOST_NUMBER ? MOST_NUMBER : sum;
            }
            return swept[term];
        }

        private static int bucketOf(int itsHead, int a, int b) {
            return (itsHead * 31 + a) * 67 + b & BUCKETS - 1;
        }

        private int find(int bucket, int itsHead, int a, int b) {
            int t = newest[bucket] - 1;
            for (int looks = 0; looks < MOST_TERMS && t >= 0; looks++) {
                if (head[t] == itsHead && first[t] == a && second[t] == b) {
                    return t;
                }
                t = older[t] - 1;
            }
            return NONE;
        }

        private void measure(int t) {
            long itsSize = 1;
            long itsWeight = headWeight[head[t]];
            int v = head[t] - FIRST_VARIABLE;
            int within = v >= 0 ? 1 << v : 0;
            if (first[t] != NONE) {
                itsSize += size[first[t]];
                itsWeight += weight[first[t]];
                within |= variables[first[t]];
            }
            if (second[t] != NONE) {
                itsSize += size[second[t]];
                itsWeight += weight[second[t]];
                within |= variables[second[t]];
            }
            size[t] = itsSize > MOST_NUMBER ? MOST_NUMBER : itsSize;
            weight[t] = itsWeight > MOST_NUMBER ? MOST_NUMBER : itsWeight;
            variables[t] = within;
        }
    }

    /** RULES by numbers. */
    private static final class Rules {
        int many;
        final int[] left = new int[MOST_RULES];
        final int[] right = new int[MOST_RULES];
        final boolean[] isOn = new boolean[MOST_RULES];

        int add(int itsLeft, int itsRight) {
            if (many >= MOST_RULES) {
                return FULL;
            }
            left[many] = itsLeft;
            right[many] = itsRight;
            isOn[many] = true;
            many++;
            return many - 1;
        }
    }

    /** The STEPS of one call: by which RULE, at which PLACE. */
    private static final class Steps {
        int many;
        final int[] rule = new int[MOST_STEPS];
        final long[] place = new long[MOST_STEPS];

        void add(int itsRule, long itsPlace) {
            if (many < MOST_STEPS) {
                rule[many] = itsRule;
                place[many] = itsPlace;
                many++;
            }
        }

        void copyFrom(Steps other) {
            many = other.many;
            System.arraycopy(other.rule, 0, rule, 0, many);
            System.arraycopy(other.place, 0, place, 0, many);
        }
    }

    /** Does STEPS. The way to a PLACE is a row, as a TERM may be nested some 1000 deep. */
    private static final class Rewriter {
        private final Terms bank;
        private final Rules rules;
        final Steps done = new Steps();
        // The stamp of the latest run that found no PLACE for a STEP in the TERM.
        private final int[] cleanIn = new int[MOST_TERMS];
        // The way from the outermost TERM to the one that is looked at.
        private final int[] path = new int[MOST_TERMS];
        private int depth;
        private int stamp;
        private int leftOut;
        // What stands in place of each VARIABLE of the LEFT that was fitted last.
        private final int[] bound = new int[RULE_VARIABLES];

        Rewriter(Terms terms, Rules book) {
            bank = terms;
            rules = book;
        }

        /** To be called ahead of STEPS whenever RULES or TERMS may have changed meanwhile. */
        void begin(int ruleLeftOut) {
            stamp++;
            leftOut = ruleLeftOut;
        }

        /** The TERM behind one STEP, NONE or FULL. */
        int rewriteOnce(int term, int way) {
            done.many = 0;
            int rule = search(term, way);
            return rule == NONE ? NONE : replace(rule);
        }

        /** NORMAL of a TERM, OPEN or FULL. */
        int reduce(int term, int way) {
            done.many = 0;
            int now = term;
            for (int steps = 0; steps < MOST_STEPS; steps++) {
                int rule = search(now, way);
                if (rule == NONE) {
                    return now;
                }
                now = replace(rule);
                if (now == FULL) {
                    return FULL;
                }
            }
            return search(now, way) == NONE ? now : OPEN;
        }

        /** Whether two TERMS have the same NORMAL: 1, 0, OPEN or FULL. */
        int joins(int s, int t, int ruleLeftOut) {
            begin(ruleLeftOut);
            int one = reduce(s, 0);
            if (one < 0) {
                return one;
            }
            int other = reduce(t, 0);
            if (other < 0) {
                return other;
            }
            return one == other ? 1 : 0;
        }

        /** The RULE for the next STEP, the path then leading to its PLACE; or NONE. */
        private int search(int term, int way) {
            depth = 0;
            int rule = cleanIn[term] == stamp ? NONE : enter(term, way);
            for (int looks = 0; looks < MOST_LOOKS && depth > 0 && rule == NONE; looks++) {
                int t = path[depth - 1];
                int part = nextPart(t);
                rule = part == NONE ? leave(t, way) : enter(part, way);
            }
            return rule;
        }

        /** The first PART that has not been found clean, or NONE. */
        private int nextPart(int term) {
            int a = bank.first[term];
            if (a != NONE && cleanIn[a] != stamp) {
                return a;
            }
            int b = bank.second[term];
            return b != NONE && cleanIn[b] != stamp ? b : NONE;
        }

        private int enter(int term, int way) {
            if (depth >= MOST_TERMS) {
                return NONE;
            }
            path[depth] = term;
            depth++;
            return way == 0 ? ruleFor(term) : NONE;
        }

        private int leave(int term, int way) {
            int rule = way == 1 ? ruleFor(term) : NONE;
            if (rule == NONE) {
                cleanIn[term] = stamp;
                depth--;
            }
            return rule;
        }

        // A PLACE in a PART that stands there twice is in the first one: nextPart() leads there.
        private boolean isInFirst(int k) {
            return bank.first[path[k]] == path[k + 1];
        }

        private int ruleFor(int term) {
            for (int r = 0; r < rules.many; r++) {
                int left = rules.left[r];
                if (rules.isOn[r] && r != leftOut && bank.head[left] == bank.head[term]) {
                    Arrays.fill(bound, NONE);
                    if (fits(left, term, 1)) {
                        return r;
                    }
                }
            }
            return NONE;
        }

        private boolean fits(int pattern, int term, int level) {
            if (bank.variables[pattern] == 0) {
                return pattern == term;
            }
            if (bank.isVariable(pattern)) {
                int v = bank.head[pattern] - FIRST_VARIABLE;
                if (bound[v] == NONE) {
                    bound[v] = term;
                }
                return bound[v] == term;
            }
            if (bank.head[pattern] != bank.head[term] || level > MOST_SMALL_SIZE) {
                return false;
            }
            return fits(bank.first[pattern], bank.first[term], level + 1)
                    && (bank.second[pattern] == NONE
                            || fits(bank.second[pattern], bank.second[term], level + 1));
        }

        /** Does the STEP that search() has found: the whole TERM behind it, or FULL. */
        private int replace(int rule) {
            int now = instance(rules.right[rule], 1);
            long place = 1;
            for (int k = 0; k < depth - 1; k++) {
                place = placeOfPart(place, isInFirst(k) ? 0 : 1);
            }
            for (int k = depth - 2; k >= 0 && now != FULL; k--) {
                int t = path[k];
                now = isInFirst(k)
                        ? bank.make(bank.head[t], now, bank.second[t])
                        : bank.make(bank.head[t], bank.first[t], now);
            }
            done.add(rule, place);
            return now;
        }

        private int instance(int term, int level) {
            if (bank.variables[term] == 0) {
                return term;
            }
            if (bank.isVariable(term)) {
                return bound[bank.head[term] - FIRST_VARIABLE];
            }
            if (level > MOST_SMALL_SIZE) {
                return FULL;
            }
            int a = instance(bank.first[term], level + 1);
            if (a == FULL) {
                return FULL;
            }
            int b = bank.second[term] == NONE ? NONE : instance(bank.second[term], level + 1);
            return b == FULL ? FULL : bank.make(bank.head[term], a, b);
        }
    }

    /** Which TERM is ABOVE which; asked of small TERMS alone. */
    private static final class Order {
        private final Terms bank;
        private final int[] surplus = new int[VARIABLES];

        Order(Terms terms) {
            bank = terms;
        }

        boolean isAbove(int s, int t, int level) {
            if (s == t || level > MOST_SMALL_SIZE || !hasVariablesOf(s, t)) {
                return false;
            }
            if (bank.weight[s] != bank.weight[t]) {
                return bank.weight[s] > bank.weight[t];
            }
            if (bank.isVariable(s) || bank.isVariable(t)) {
                return !bank.isVariable(s);
            }
            if (bank.head[s] != bank.head[t]) {
                return bank.head[s] > bank.head[t];
            }
            if (bank.first[s] != bank.first[t]) {
                return isAbove(bank.first[s], bank.first[t], level + 1);
            }
            return isAbove(bank.second[s], bank.second[t], level + 1);
        }

        private boolean hasVariablesOf(int s, int t) {
            Arrays.fill(surplus, 0);
            addVariables(s, 1, 1);
            addVariables(t, -1, 1);
            for (int v = 0; v < VARIABLES; v++) {
                if (surplus[v] < 0) {
                    return false;
                }
            }
            return true;
        }

        private void addVariables(int term, int by, int level) {
            if (bank.variables[term] == 0 || level > MOST_SMALL_SIZE) {
                return;
            }
            if (bank.isVariable(term)) {
                surplus[bank.head[term] - FIRST_VARIABLE] += by;
                return;
            }
            addVariables(bank.first[term], by, level + 1);
            if (bank.second[term] != NONE) {
                addVariables(bank.second[term], by, level + 1);
            }
        }
    }

    /**
     * The TERMS of two RULES i and j laid out as trees: first a node for each VARIABLE, those of j
     * 4 greater, then a node for each PLACE with a SIGN, each TERM ahead of its PARTS.
     */
    private static final class Sheet {
        static final int START = VARIABLES;
        // Two RULES, and a copy of what stands round a PLACE.
        static final int NODES = START + 5 * MOST_SMALL_SIZE;

        private final Terms bank;
        int laid;
        final int[] head = new int[NODES];
        final int[] first = new int[NODES];
        final int[] second = new int[NODES];
        // The node whose PART a node is, and which one.
        private final int[] outer = new int[NODES];
        private final int[] which = new int[NODES];
        final long[] place = new long[NODES];
        // A bit for each VARIABLE that stands within.
        final int[] variables = new int[NODES];

        Sheet(Terms terms) {
            bank = terms;
        }

        static boolean isVariable(int node) {
            return node < START;
        }

        /** The node of a TERM, which is laid out with all within it. */
        int lay(int term, int shift, long itsPlace, int level) {
            if (bank.isVariable(term)) {
                return bank.head[term] - FIRST_VARIABLE + shift;
            }
            if (level > MOST_SMALL_SIZE || laid >= NODES) {
                return NONE;
            }
            int node = laid;
            laid++;
            head[node] = bank.head[term];
            place[node] = itsPlace;
            variables[node] = bank.variables[term] << shift;
            first[node] = layPart(node, bank.first[term], 0, shift, level);
            second[node] = layPart(node, bank.second[term], 1, shift, level);
            return node;
        }

        private int layPart(int node, int term, int i, int shift, int level) {
            if (term == NONE) {
                return NONE;
            }
            int inner = lay(term, shift, placeOfPart(place[node], i), level + 1);
            if (inner >= START) {
                outer[inner] = node;
                which[inner] = i;
            }
            return inner;
        }

        /** The node of a copy of LEFT i with another node in place of one of its own. */
        int layReplaced(int node, int by) {
            int inner = by;
            int n = node;
            for (int looks = 0; looks < MOST_SMALL_SIZE && n > START && laid < NODES; looks++) {
                int copied = outer[n];
                head[laid] = head[copied];
                first[laid] = which[n] == 0 ? inner : first[copied];
                second[laid] = which[n] == 1 ? inner : second[copied];
                inner = laid;
                laid++;
                n = copied;
            }
            return inner;
        }
    }

    /** Makes two nodes of a sheet the same, in the most general way: nodes fall into classes. */
    private static final class Unifier {
        private final Sheet sheet;
        // A chain to the class's leading node; there a node of the class, with a SIGN if one has.
        private final int[] lead = new int[Sheet.NODES];
        private final int[] shape = new int[Sheet.NODES];
        // Behind unify(): the shape of each node's class.
        final int[] becomes = new int[Sheet.NODES];
        // Two nodes with SIGNS leave one more waiting at most, so this is enough.
        private final int[] waitingA = new int[Sheet.NODES];
        private final int[] waitingB = new int[Sheet.NODES];
        private int waiting;
        private final int[] reaches = new int[VARIABLES];

        Unifier(Sheet laidOut) {
            sheet = laidOut;
        }

        boolean unify(int a, int b) {
            for (int n = 0; n < sheet.laid; n++) {
                lead[n] = n;
                shape[n] = n;
            }
            waiting = 0;
            await(a, b);
            for (int looks = 0; looks < MOST_LOOKS && waiting > 0; looks++) {
                waiting--;
                if (!merge(leadOf(waitingA[waiting]), leadOf(waitingB[waiting]))) {
                    return false;
                }
            }
            for (int n = 0; n < sheet.laid; n++) {
                becomes[n] = shape[leadOf(n)];
            }
            return !isRound();
        }

        private void await(int a, int b) {
            if (a != NONE && b != NONE && waiting < Sheet.NODES) {
                waitingA[waiting] = a;
                waitingB[waiting] = b;
                waiting++;
            }
        }

        private int leadOf(int node) {
            int n = node;
            for (int looks = 0; looks < Sheet.NODES && lead[n] != n; looks++) {
                n = lead[n];
            }
            return n;
        }

        private boolean merge(int a, int b) {
            if (a == b) {
                return true;
            }
            int shapeA = shape[a];
            int shapeB = shape[b];
            lead[a] = b;
            if (Sheet.isVariable(shapeB)) {
                shape[b] = shapeA;
                return true;
            }
            if (Sheet.isVariable(shapeA)) {
                return true;
            }
            if (sheet.head[shapeA] != sheet.head[shapeB]) {
                return false;
            }
            await(sheet.second[shapeA], sheet.second[shapeB]);
            await(sheet.first[shapeA], sheet.first[shapeB]);
            return true;
        }

        /** Whether a VARIABLE would stand within itself: each round leads through VARIABLES. */
        private boolean isRound() {
            for (int v = 0; v < VARIABLES; v++) {
                reaches[v] = Sheet.isVariable(becomes[v]) ? 0 : sheet.variables[becomes[v]];
            }
            for (int by = 0; by < VARIABLES; by++) {
                for (int v = 0; v < VARIABLES; v++) {
                    if ((reaches[v] >> by & 1) == 1) {
                        reaches[v] |= reaches[by];
                    }
                }
            }
            for (int v = 0; v < VARIABLES; v++) {
                if ((reaches[v] >> v & 1) == 1) {
                    return true;
                }
            }
            return false;
        }
    }

    /** PAIRS as told last, and beside them those of a telling that may still be refused. */
    private static final class PairRows {
        int many;
        int fresh;
        private int start;
        private int freshStart = MOST_PAIRS;
        private final int[] ruleI = new int[2 * MOST_PAIRS];
        private final int[] ruleJ = new int[2 * MOST_PAIRS];
        private final long[] place = new long[2 * MOST_PAIRS];
        private final int[] first = new int[2 * MOST_PAIRS];
        private final int[] second = new int[2 * MOST_PAIRS];

        void add(int i, int j, long itsPlace, int itsFirst, int itsSecond) {
            if (fresh < MOST_PAIRS) {
                int at = freshStart + fresh;
                ruleI[at] = i;
                ruleJ[at] = j;
                place[at] = itsPlace;
                first[at] = itsFirst;
                second[at] = itsSecond;
                fresh++;
            }
        }

        void takeFresh() {
            int old = start;
            start = freshStart;
            freshStart = old;
            many = fresh;
        }

        int firstOf(int k) {
            return first[start + k];
        }

        int secondOf(int k) {
            return second[start + k];
        }

        long read(int k, int what) {
            switch (what) {
                case 0:
                    return ruleI[start + k];
                case 1:
                    return ruleJ[start + k];
                case 2:
                    return place[start + k];
                case 3:
                    return firstOf(k);
                default:
                    return secondOf(k);
            }
        }
    }

    /** Tells PAIRS. */
    private static final class PairMaker {
        private final Terms bank;
        private final Rules rules;
        private final Sheet sheet;
        private final Unifier unifier;
        final PairRows told = new PairRows();
        // Nodes of the RULES i and j; LEFT i begins at the sheet's start.
        private int leftEnd;
        private int rightOfI;
        private int leftOfJ;
        private int rightOfJ;
        private final int[] numbered = new int[VARIABLES];
        private final boolean[] isMet = new boolean[Sheet.NODES];
        // The TERM that has been made of a node, or NONE.
        private final int[] built = new int[Sheet.NODES];
        // A node is looked into once and leaves one more waiting at most, so this is enough.
        private final int[] stack = new int[Sheet.NODES];

        PairMaker(Terms terms, Rules book) {
            Sheet laidOut = new Sheet(terms);
            bank = terms;
            rules = book;
            sheet = laidOut;
            unifier = new Unifier(laidOut);
        }

        /** How many PAIRS there are; FULL, those of the last telling then staying. */
        int tellAnew() {
            told.fresh = 0;
            for (int i = 0; i < rules.many; i++) {
                if (rules.isOn[i] && !tellOfFirst(i)) {
                    return FULL;
                }
            }
            told.takeFresh();
            return told.many;
        }

        private boolean tellOfFirst(int i) {
            layFirst(i);
            int laidOfI = sheet.laid;
            for (int j = 0; j < rules.many; j++) {
                sheet.laid = laidOfI;
                if (rules.isOn[j]) {
                    laySecond(j);
                    if (!tellOf(i, j)) {
                        return false;
                    }
                }
            }
            return true;
        }

        private void layFirst(int i) {
            sheet.laid = Sheet.START;
            sheet.lay(rules.left[i], 0, 1, 1);
            leftEnd = sheet.laid;
            rightOfI = sheet.lay(rules.right[i], 0, 1, 1);
        }

        private void laySecond(int j) {
            leftOfJ = sheet.lay(rules.left[j], RULE_VARIABLES, 1, 1);
            rightOfJ = sheet.lay(rules.right[j], RULE_VARIABLES, 1, 1);
        }

        private boolean tellOf(int i, int j) {
            int laidOfBoth = sheet.laid;
            int start = i == j ? Sheet.START + 1 : Sheet.START;
            for (int n = start; n < leftEnd && told.fresh < MOST_PAIRS; n++) {
                sheet.laid = laidOfBoth;
                if (sheet.head[n] == sheet.head[leftOfJ] && unifier.unify(n, leftOfJ)) {
                    numberVariables();
                    int replaced = copyReplaced(n);
                    Arrays.fill(built, NONE);
                    int first = build(replaced);
                    int second = first == FULL ? FULL : build(rightOfI);
                    if (second == FULL) {
                        return false;
                    }
                    told.add(i, j, sheet.place[n], first, second);
                }
            }
            return true;
        }

        /** Numbers VARIABLES as they are met along what LEFT i becomes. */
        private void numberVariables() {
            for (int n = 0; n < sheet.laid; n++) {
                isMet[n] = false;
            }
            int many = 0;
            int depth = push(Sheet.START, 0);
            for (int looks = 0; looks < MOST_LOOKS && depth > 0; looks++) {
                depth--;
                int node = unifier.becomes[stack[depth]];
                if (isMet[node]) {
                    continue;
                }
                isMet[node] = true;
                if (Sheet.isVariable(node)) {
                    numbered[node] = many;
                    many++;
                } else {
                    depth = push(sheet.second[node], depth);
                    depth = push(sheet.first[node], depth);
                }
            }
        }

        /** The depth behind it; nothing is pushed for a PART that is not there. */
        private int push(int node, int depth) {
            if (node == NONE || depth >= stack.length) {
                return depth;
            }
            stack[depth] = node;
            return depth + 1;
        }

        /** The node of LEFT i with RIGHT j in place of a node. */
        private int copyReplaced(int node) {
            int start = sheet.laid;
            int copy = sheet.layReplaced(node, rightOfJ);
            for (int n = start; n < sheet.laid; n++) {
                unifier.becomes[n] = n;
            }
            return copy;
        }

        /** The TERM that a node becomes, or FULL. */
        private int build(int root) {
            int whole = unifier.becomes[root];
            int depth = push(whole, 0);
            for (int looks = 0; looks < MOST_LOOKS && depth > 0; looks++) {
                int node = stack[depth - 1];
                int part = unbuiltPart(node);
                if (part != NONE) {
                    depth = push(part, depth);
                } else {
                    built[node] = makeOf(node);
                    if (built[node] == FULL) {
                        return FULL;
                    }
                    depth--;
                }
            }
            return built[whole];
        }

        private int unbuiltPart(int node) {
            if (Sheet.isVariable(node)) {
                return NONE;
            }
            int a = sheet.first[node];
            if (a != NONE && built[unifier.becomes[a]] == NONE) {
                return unifier.becomes[a];
            }
            int b = sheet.second[node];
            if (b != NONE && built[unifier.becomes[b]] == NONE) {
                return unifier.becomes[b];
            }
            return NONE;
        }

        private int makeOf(int node) {
            if (Sheet.isVariable(node)) {
                return bank.make(FIRST_VARIABLE + numbered[node], NONE, NONE);
            }
            int a = sheet.first[node];
            int b = sheet.second[node];
            return bank.make(sheet.head[node], a == NONE ? NONE : built[unifier.becomes[a]],
                    b == NONE ? NONE : built[unifier.becomes[b]]);
        }
    }

    /** TABLES, and what VALUES TERMS have by them. */
    private static final class Tables {
        private static final int SIDE = MOST_VALUES + 1;

        private final Terms bank;
        int values;
        private final int[] cells = new int[MOST_SIGNS * SIDE * SIDE];
        final int[] given = new int[VARIABLES];
        // What VARIABLES have while a RULE is judged, and behind that where it was refuted.
        final int[] tried = new int[VARIABLES];
        boolean isRefuted;

        Tables(Terms terms) {
            bank = terms;
        }

        void begin(int n) {
            values = n;
            Arrays.fill(cells, 0);
            Arrays.fill(given, 0);
        }

        int write(int sign, int a, int b, int v) {
            int at = cellAt(sign, a, b);
            int was = cells[at];
            cells[at] = v;
            return was;
        }

        /** By one sweep over all lower numbers, as a TERM's tree may be too large to be walked. */
        int valueOf(int term) {
            long[] valued = bank.swept;
            for (int t = 0; t <= term; t++) {
                int a = bank.first[t];
                int b = bank.second[t];
                valued[t] = bank.isVariable(t)
                        ? given[bank.head[t] - FIRST_VARIABLE]
                        : cells[cellAt(bank.head[t], a == NONE ? 0 : (int) valued[a],
                                b == NONE ? 0 : (int) valued[b])];
            }
            return (int) valued[term];
        }

        /** Whether LEFT and RIGHT differ somewhere; if so, tried is the first such. */
        boolean refutes(int left, int right) {
            Arrays.fill(tried, 0);
            boolean isMore = true;
            for (int looks = 0; looks < MOST_LOOKS && isMore; looks++) {
                if (triedValueOf(left, 1) != triedValueOf(right, 1)) {
                    return true;
                }
                isMore = tryNext(bank.variables[left]);
            }
            return false;
        }

        private boolean tryNext(int variables) {
            for (int v = 0; v < RULE_VARIABLES; v++) {
                if ((variables >> v & 1) == 1) {
                    if (tried[v] < values) {
                        tried[v]++;
                        return true;
                    }
                    tried[v] = 0;
                }
            }
            return false;
        }

        private static int cellAt(int sign, int a, int b) {
            return (sign * SIDE + a) * SIDE + b;
        }

        /** VALUE of a RULE's TERM, by what is tried; 0 of a PART that is not there. */
        private int triedValueOf(int term, int level) {
            if (term == NONE || level > MOST_SMALL_SIZE) {
                return 0;
            }
            if (bank.isVariable(term)) {
                return tried[bank.head[term] - FIRST_VARIABLE];
            }
            int a = triedValueOf(bank.first[term], level + 1);
            int b = triedValueOf(bank.second[term], level + 1);
            return cells[cellAt(bank.head[term], a, b)];
        }
    }
}
