import java.util.ArrayList;
import java.util.Arrays;
import java.util.HashMap;
import java.util.List;
import java.util.Map;
import java.util.TreeMap;

/**
 * The document written a second time, as plainly as can be: TERMS are trees, every walk goes over
 * the whole tree, and a refused call puts a copy of the TERMS back. Only for TERMS of modest SIZE:
 * TooLarge is thrown where a walk would take too long.
 */
final class Model {
    static final int NONE = -1, BAD = -2, STATE = -3, FULL = -4, OPEN = -5;

    static final class TooLarge extends RuntimeException {
        private static final long serialVersionUID = 1L;
    }

    private static final class Full extends Exception {
        private static final long serialVersionUID = 1L;
    }

    /** A VARIABLE (sign NONE), or a SIGN with its PARTS. */
    record Tree(int sign, int variable, List<Tree> parts, long size, int hash) {
        @Override
        public int hashCode() {
            return hash;
        }
    }

    private record Rule(Tree left, Tree right) {
    }

    private record Pair(int i, int j, long place, Tree s, Tree t) {
    }

    private record Step(int rule, long place, Tree whole) {
    }

    private final List<int[]> signs = new ArrayList<>();
    private List<Tree> terms = new ArrayList<>();
    private Map<Tree, Integer> numbers = new HashMap<>();
    private final List<Rule> rules = new ArrayList<>();
    private final List<Boolean> on = new ArrayList<>();
    private List<Step> used = new ArrayList<>();
    private List<Pair> told = new ArrayList<>();
    private int n;
    private Map<String, Integer> cells = new HashMap<>();
    private int[] held = new int[8];
    private int[] refuted;
    private long budget;

    private static Tree variableTree(int v) {
        return new Tree(NONE, v, List.of(), 1, v + 1000);
    }

    private static Tree signTree(int sign, List<Tree> parts) {
        long size = 1;
        int hash = sign + 7;
        for (Tree p : parts) {
            size += p.size();
            hash = hash * 31 + p.hash();
        }
        if (size > 2500) {
            throw new TooLarge();
        }
        return new Tree(sign, NONE, List.copyOf(parts), size, hash);
    }

    private int enroll(Tree t) throws Full {
        Integer there = numbers.get(t);
        if (there != null) {
            return there;
        }
        for (Tree p : t.parts()) {
            enroll(p);
        }
        if (terms.size() == 1000) {
            throw new Full();
        }
        terms.add(t);
        numbers.put(t, terms.size() - 1);
        return terms.size() - 1;
    }

    private boolean isTerm(int t) {
        return t >= 0 && t < terms.size();
    }

    private boolean isRule(int r) {
        return r >= 0 && r < rules.size();
    }

    private interface Work {
        long done() throws Full;
    }

    private long whole(Work work) {
        List<Tree> before = new ArrayList<>(terms);
        budget = 400_000;
        try {
            return work.done();
        } catch (Full e) {
            terms = before;
            numbers = new HashMap<>();
            for (int k = 0; k < terms.size(); k++) {
                numbers.put(terms.get(k), k);
            }
            return FULL;
        }
    }

    private void spend() {
        budget--;
        if (budget < 0) {
            throw new TooLarge();
        }
    }

    long sign(int arity, int weight) {
        if (arity < 0 || arity > 2 || weight < 1 || weight > 9) {
            return BAD;
        }
        if (signs.size() == 10) {
            return FULL;
        }
        signs.add(new int[] {arity, weight});
        return signs.size() - 1;
    }

    long variable(int v) {
        return v < 0 || v > 7 ? BAD : whole(() -> enroll(variableTree(v)));
    }

    long term(int sign, int a, int b) {
        if (sign < 0 || sign >= signs.size()) {
            return BAD;
        }
        List<Tree> parts = new ArrayList<>();
        int[] named = {a, b};
        for (int i = 0; i < signs.get(sign)[0]; i++) {
            if (!isTerm(named[i])) {
                return BAD;
            }
            parts.add(terms.get(named[i]));
        }
        return whole(() -> enroll(signTree(sign, parts)));
    }

    private static long often(Tree t, int v) {
        long sum = t.variable() == v ? 1 : 0;
        for (Tree p : t.parts()) {
            sum += often(p, v);
        }
        return sum;
    }

    long rule(int left, int right) {
        if (!isTerm(left) || !isTerm(right)) {
            return BAD;
        }
        Tree l = terms.get(left);
        Tree r = terms.get(right);
        if (l.sign() == NONE || l.size() > 30 || r.size() > 30) {
            return STATE;
        }
        for (int v = 0; v < 8; v++) {
            if (v > 3 && often(l, v) + often(r, v) > 0 || often(r, v) > 0 && often(l, v) == 0) {
                return STATE;
            }
        }
        if (rules.size() == 16) {
            return FULL;
        }
        rules.add(new Rule(l, r));
        on.add(true);
        return rules.size() - 1;
    }

    long on(int rule, boolean is) {
        return isRule(rule) ? on.set(rule, is) ? 1 : 0 : BAD;
    }

    private boolean fits(Tree left, Tree t, Map<Integer, Tree> by) {
        spend();
        if (left.sign() == NONE) {
            Tree old = by.putIfAbsent(left.variable(), t);
            return old == null || old.equals(t);
        }
        if (left.sign() != t.sign()) {
            return false;
        }
        for (int i = 0; i < left.parts().size(); i++) {
            if (!fits(left.parts().get(i), t.parts().get(i), by)) {
                return false;
            }
        }
        return true;
    }

    private static Tree put(Tree t, Map<Integer, Tree> by) {
        if (t.sign() == NONE) {
            return by.getOrDefault(t.variable(), t);
        }
        List<Tree> parts = new ArrayList<>();
        for (Tree p : t.parts()) {
            parts.add(put(p, by));
        }
        return signTree(t.sign(), parts);
    }

    private static long inner(long place, int i) {
        return place == 0 || place > (100_000_000_000_000_000L - 1 - i) / 3 ? 0 : 3 * place + i;
    }

    private static Tree with(Tree t, int i, Tree part) {
        List<Tree> parts = new ArrayList<>(t.parts());
        parts.set(i, part);
        return signTree(t.sign(), parts);
    }

    private Step here(Tree t, long place, int without) {
        for (int r = 0; r < rules.size(); r++) {
            Map<Integer, Tree> by = new HashMap<>();
            if (on.get(r) && r != without && fits(rules.get(r).left(), t, by)) {
                return new Step(r, place, put(rules.get(r).right(), by));
            }
        }
        return null;
    }

    private Step next(Tree t, long place, int way, int without) {
        spend();
        Step found = way == 0 ? here(t, place, without) : null;
        for (int i = 0; i < t.parts().size() && found == null; i++) {
            Step within = next(t.parts().get(i), inner(place, i), way, without);
            if (within != null) {
                return new Step(within.rule(), within.place(), with(t, i, within.whole()));
            }
        }
        return found == null && way == 1 ? here(t, place, without) : found;
    }

    /** Makes what has become of a TERM: all that is new stands along the way to the PLACE. */
    private Tree normalOf(Tree t, int way, int without, int most, List<Step> log) throws Full {
        Tree now = t;
        for (int k = 0; k < most; k++) {
            Step s = next(now, 1, way, without);
            if (s == null) {
                return now;
            }
            now = s.whole();
            enroll(now);
            log.add(s);
        }
        return next(now, 1, way, without) == null || most == 1 ? now : null;
    }

    long step(int term, int way) {
        if (!isTerm(term) || way < 0 || way > 1) {
            return BAD;
        }
        return whole(() -> {
            List<Step> log = new ArrayList<>();
            Tree now = normalOf(terms.get(term), way, NONE, 1, log);
            used = log;
            return log.isEmpty() ? NONE : numbers.get(now);
        });
    }

    long normal(int term, int way) {
        if (!isTerm(term) || way < 0 || way > 1) {
            return BAD;
        }
        return whole(() -> {
            List<Step> log = new ArrayList<>();
            Tree now = normalOf(terms.get(term), way, NONE, 100, log);
            used = log;
            return now == null ? OPEN : numbers.get(now);
        });
    }

    long used(int k, int what) {
        if (what != 0 && what != 1) {
            return BAD;
        }
        if (k == NONE) {
            return used.size();
        }
        if (k < 0 || k >= used.size()) {
            return NONE;
        }
        return what == 0 ? used.get(k).rule() : used.get(k).place();
    }

    private long weight(Tree t) {
        long sum = t.sign() == NONE ? 1 : signs.get(t.sign())[1];
        for (Tree p : t.parts()) {
            sum += weight(p);
        }
        return sum;
    }

    private boolean isAbove(Tree s, Tree t) {
        for (int v = 0; v < 8; v++) {
            if (often(t, v) > often(s, v)) {
                return false;
            }
        }
        if (weight(s) > weight(t)) {
            return true;
        }
        if (weight(s) < weight(t)) {
            return false;
        }
        if (t.sign() == NONE && s.sign() != NONE) {
            return true;
        }
        if (s.sign() == NONE || t.sign() == NONE) {
            return false;
        }
        if (s.sign() > t.sign()) {
            return true;
        }
        if (s.sign() == t.sign()) {
            for (int i = 0; i < s.parts().size(); i++) {
                if (!s.parts().get(i).equals(t.parts().get(i))) {
                    return isAbove(s.parts().get(i), t.parts().get(i));
                }
            }
        }
        return false;
    }

    long ends(int rule) {
        return !isRule(rule) ? BAD : isAbove(rules.get(rule).left(), rules.get(rule).right()) ? 1 : 0;
    }

    long above(int s, int t) {
        if (!isTerm(s) || !isTerm(t)) {
            return BAD;
        }
        if (terms.get(s).size() > 30 || terms.get(t).size() > 30) {
            return STATE;
        }
        return isAbove(terms.get(s), terms.get(t)) ? 1 : 0;
    }

    private static Tree shifted(Tree t) {
        Map<Integer, Tree> by = new HashMap<>();
        for (int v = 0; v < 4; v++) {
            by.put(v, variableTree(v + 4));
        }
        return put(t, by);
    }

    /** Robinson's way: the substitution is put into everything at each VARIABLE that is solved. */
    private static boolean unify(Tree a, Tree b, Map<Integer, Tree> by) {
        Tree s = put(a, by);
        Tree t = put(b, by);
        if (s.equals(t)) {
            return true;
        }
        if (s.sign() == NONE || t.sign() == NONE) {
            int v = s.sign() == NONE ? s.variable() : t.variable();
            Tree other = s.sign() == NONE ? t : s;
            if (often(other, v) > 0) {
                return false;
            }
            Map<Integer, Tree> one = Map.of(v, other);
            by.replaceAll((w, u) -> put(u, one));
            by.put(v, other);
            return true;
        }
        if (s.sign() != t.sign()) {
            return false;
        }
        for (int i = 0; i < s.parts().size(); i++) {
            if (!unify(s.parts().get(i), t.parts().get(i), by)) {
                return false;
            }
        }
        return true;
    }

    private static void renumber(Tree t, Map<Integer, Tree> anew) {
        if (t.sign() == NONE) {
            anew.putIfAbsent(t.variable(), variableTree(anew.size()));
        }
        for (Tree p : t.parts()) {
            renumber(p, anew);
        }
    }

    private static void placesOf(Tree t, List<Integer> way, List<List<Integer>> all) {
        if (t.sign() != NONE) {
            all.add(List.copyOf(way));
        }
        for (int i = 0; i < t.parts().size(); i++) {
            way.add(i);
            placesOf(t.parts().get(i), way, all);
            way.remove(way.size() - 1);
        }
    }

    private static Tree at(Tree t, List<Integer> way) {
        Tree now = t;
        for (int i : way) {
            now = now.parts().get(i);
        }
        return now;
    }

    private static Tree replaced(Tree t, List<Integer> way, Tree by) {
        if (way.isEmpty()) {
            return by;
        }
        int i = way.get(0);
        return with(t, i, replaced(t.parts().get(i), way.subList(1, way.size()), by));
    }

    private void tell(int i, int j, List<Integer> way, List<Pair> pairs) throws Full {
        Tree left = rules.get(i).left();
        Map<Integer, Tree> by = new HashMap<>();
        if (i == j && way.isEmpty() || !unify(at(left, way), shifted(rules.get(j).left()), by)) {
            return;
        }
        Map<Integer, Tree> anew = new HashMap<>();
        renumber(put(left, by), anew);
        Tree one = replaced(left, way, shifted(rules.get(j).right()));
        Tree s = put(put(one, by), anew);
        Tree t = put(put(rules.get(i).right(), by), anew);
        if (pairs.size() < 60) {
            enroll(s);
            enroll(t);
            long place = 1;
            for (int k : way) {
                place = inner(place, k);
            }
            pairs.add(new Pair(i, j, place, s, t));
        }
    }

    long pairs() {
        return whole(() -> {
            List<Pair> pairs = new ArrayList<>();
            for (int i = 0; i < rules.size(); i++) {
                for (int j = 0; j < rules.size(); j++) {
                    List<List<Integer>> places = new ArrayList<>();
                    placesOf(rules.get(i).left(), new ArrayList<>(), places);
                    for (List<Integer> way : places) {
                        if (on.get(i) && on.get(j)) {
                            tell(i, j, way, pairs);
                        }
                    }
                }
            }
            told = pairs;
            return told.size();
        });
    }

    private long joined(Tree s, Tree t, int without) throws Full {
        Tree a = normalOf(s, 0, without, 100, new ArrayList<>());
        Tree b = a == null ? null : normalOf(t, 0, without, 100, new ArrayList<>());
        return b == null ? OPEN : a.equals(b) ? 1 : 0;
    }

    long pair(int k, int what) {
        if (k < 0 || k >= told.size() || what < 0 || what > 5) {
            return BAD;
        }
        Pair p = told.get(k);
        if (what == 5) {
            return whole(() -> joined(p.s(), p.t(), NONE));
        }
        return new long[] {p.i(), p.j(), p.place(), numbers.get(p.s()), numbers.get(p.t())}[what];
    }

    long tables(int values) {
        if (values < 1 || values > 3) {
            return BAD;
        }
        n = values;
        cells = new TreeMap<>();
        held = new int[8];
        return n;
    }

    private static String cellName(int sign, int arity, int a, int b) {
        return sign + (arity > 0 ? "," + a : "") + (arity > 1 ? "," + b : "");
    }

    long cell(int sign, int a, int b, int v) {
        if (n == 0) {
            return STATE;
        }
        if (sign < 0 || sign >= signs.size() || v < 0 || v > n) {
            return BAD;
        }
        int arity = signs.get(sign)[0];
        if (arity > 0 && (a < 0 || a > n) || arity > 1 && (b < 0 || b > n)) {
            return BAD;
        }
        Integer was = cells.put(cellName(sign, arity, a, b), v);
        return was == null ? 0 : was;
    }

    long has(int variable, int v) {
        if (n == 0) {
            return STATE;
        }
        if (variable < 0 || variable > 7 || v < 0 || v > n) {
            return BAD;
        }
        int had = held[variable];
        held[variable] = v;
        return had;
    }

    private int valueOf(Tree t, int[] having) {
        if (t.sign() == NONE) {
            return having[t.variable()];
        }
        int[] at = new int[2];
        for (int i = 0; i < t.parts().size(); i++) {
            at[i] = valueOf(t.parts().get(i), having);
        }
        return cells.getOrDefault(cellName(t.sign(), t.parts().size(), at[0], at[1]), 0);
    }

    long value(int term) {
        return n == 0 ? STATE : isTerm(term) ? valueOf(terms.get(term), held) : BAD;
    }

    long judge(int rule) {
        if (!isRule(rule)) {
            return BAD;
        }
        Rule r = rules.get(rule);
        return whole(() -> {
            long joined = joined(r.left(), r.right(), rule);
            refuted = null;
            if (joined == 1) {
                return 1;
            }
            if (n == 0) {
                return 3;
            }
            int base = n + 1;
            for (int code = 0; code < base * base * base * base; code++) {
                int[] having = {code % base, code / base % base, code / base / base % base,
                    code / base / base / base};
                boolean isAsked = true;
                for (int v = 0; v < 4; v++) {
                    isAsked &= having[v] == 0 || often(r.left(), v) > 0;
                }
                if (isAsked && valueOf(r.left(), having) != valueOf(r.right(), having)) {
                    refuted = having;
                    return 0;
                }
            }
            return 2;
        });
    }

    long refuted(int variable) {
        return variable < 0 || variable > 3 ? BAD : refuted == null ? NONE : refuted[variable];
    }

    long of(int term, int what, int i) {
        if (!isTerm(term) || what < 0 || what > 4 || what == 4 && (i < 0 || i > 7)) {
            return BAD;
        }
        Tree t = terms.get(term);
        return switch (what) {
            case 0 -> t.sign();
            case 1 -> t.variable();
            case 2 -> t.size();
            case 3 -> weight(t);
            default -> often(t, i);
        };
    }

    /** The PART, or 1000000 where an exception is due. */
    long part(int term, int i) {
        if (!isTerm(term)) {
            return BAD;
        }
        List<Tree> parts = terms.get(term).parts();
        return i < 0 || i >= parts.size() ? 1_000_000 : numbers.get(parts.get(i));
    }

    long count(int what) {
        int[] all = {signs.size(), terms.size(), rules.size(), told.size(), n};
        return what < 0 || what > 4 ? BAD : all[what];
    }

    long clear() {
        int there = terms.size();
        signs.clear();
        terms.clear();
        numbers.clear();
        rules.clear();
        on.clear();
        used = new ArrayList<>();
        told = new ArrayList<>();
        n = 0;
        refuted = null;
        Arrays.fill(held, 0);
        return there;
    }
}
