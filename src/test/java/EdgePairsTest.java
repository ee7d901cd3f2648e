/** The edges of PAIRS: promises 12 and 13. Above each test stands its sentence. */
public final class EdgePairsTest extends Dues {

    public static void main(String[] args) {
        pairsOfNothing();
        bothOn();
        notOneIfTheSame();
        placesWithSign();
        fourGreater();
        withinItself();
        withinItselfBeside();
        withinItselfByMany();
        mostGeneral();
        largestRules();
        manyDeepPlaces();
        lastSign();
        numberedFromNought();
        sevenVariables();
        sixtyAtMost();
        leftOutMakesNothing();
        lastTermsOfPairs();
        refusedPairs();
        pairNumbers();
        pairWhats();
        toldAnew();
        joined();
        joinedBehindHundred();
        joinedByRulesNow();
        joinedOpen();
        lastTermOfJoined();
        refusedJoined();
        CHECK.finish();
    }

    /** As small(), and the TERMS 2 (v0) and 3 (v1). */
    private static RewriteChecks withVariables() {
        RewriteChecks x = small();
        x.variable(0);
        x.variable(1);
        return x;
    }

    /** What is told of no RULES, of one alone, and of one that meets none. */
    private static void pairsOfNothing() {
        RewriteChecks x = withVariables();
        due("no RULES", x.pairs(), 0);
        due("count(3)", x.count(3), 0);
        due("pair(0, 0)", x.pair(0, 0), BAD);
        x.rule(0, 1);
        due("one RULE", x.pairs(), 0);
        x.rule(1, 0);
        due("two that do not meet", x.pairs(), 0);
        due("count(1)", x.count(1), 4);
    }

    /** "(both ON, by numbers)" */
    private static void bothOn() {
        RewriteChecks x = withVariables();
        for (int r = 0; r < 3; r++) {
            x.rule(0, 1);
        }
        long[][] all = {{0, 1, 1}, {0, 2, 1}, {1, 0, 1}, {1, 2, 1}, {2, 0, 1}, {2, 1, 1}};
        due("three ON", x.pairs(), 6);
        for (int k = 0; k < 6; k++) {
            duePair("PAIRS", x, k, all[k]);
        }
        x.on(1, false);
        due("two ON", x.pairs(), 2);
        duePair("PAIRS", x, 0, 0, 2, 1);
        duePair("PAIRS", x, 1, 2, 0, 1);
        x.on(2, false);
        due("one ON", x.pairs(), 0);
        x.on(0, false);
        due("none ON", x.pairs(), 0);
        x.on(1, true);
        x.on(2, true);
        due("the last two ON", x.pairs(), 2);
        duePair("PAIRS", x, 1, 2, 1, 1);
    }

    /** "(not 1, if i is j)" */
    private static void notOneIfTheSame() {
        RewriteChecks x = withVariables();
        int gv = x.term(1, 2, 0);
        int ggv = x.term(1, gv, 0);
        int gggv = x.term(1, ggv, 0);
        x.rule(gggv, 2);
        due("with itself at 3 and 9", x.pairs(), 2);
        duePair("PAIRS", x, 0, 0, 0, 3, gv, gv, 1);
        duePair("PAIRS", x, 1, 0, 0, 9, ggv, ggv, 1);
        x.rule(gggv, 2);
        due("with another one at 1 too", x.pairs(), 2 + 3 + 3 + 2);
        duePair("PAIRS", x, 2, 0, 1, 1);
        duePair("PAIRS", x, 5, 1, 0, 1);
        duePair("PAIRS", x, 8, 1, 1, 3);
    }

    /** "each PLACE of LEFT i with a SIGN, as by way 0" */
    private static void placesWithSign() {
        RewriteChecks x = withVariables();
        int fvc = x.term(2, 2, 0);
        int fcw = x.term(2, 0, 3);
        x.rule(x.term(2, fvc, fcw), 2);
        x.rule(0, 1);
        due("not at VARIABLES", x.pairs(), 2);
        duePair("PAIRS", x, 0, 0, 1, 10);
        duePair("PAIRS", x, 1, 0, 1, 12);
        x.on(1, false);
        x.rule(x.term(2, 2, 3), 2);
        due("ahead of their PARTS", x.pairs(), 3 + 1);
        duePair("PAIRS", x, 0, 0, 2, 1);
        duePair("PAIRS", x, 1, 0, 2, 3);
        duePair("PAIRS", x, 2, 0, 2, 4);
        duePair("PAIRS", x, 3, 2, 0, 1);
    }

    /** "the VARIABLES of j are taken 4 greater" */
    private static void fourGreater() {
        RewriteChecks x = withVariables();
        x.rule(x.term(2, 2, 0), 2);
        x.rule(x.term(2, 1, 2), 2);
        due("f(v0, c) and f(d, v0)", x.pairs(), 2);
        duePair("PAIRS", x, 0, 0, 1, 1, 0, 1, 0);
        duePair("PAIRS", x, 1, 1, 0, 1, 1, 0, 0);
        RewriteChecks y = withVariables();
        y.rule(y.term(2, 2, y.term(1, 2, 0)), 2);
        y.rule(y.term(2, y.term(1, 2, 0), 2), 2);
        due("f(v, g(v)) and f(g(v), v): round", y.pairs(), 0);
    }

    /** "can become the same by TERMS in place of VARIABLES": no TERM stands within itself */
    private static void withinItself() {
        RewriteChecks x = withVariables();
        int gv = x.term(1, 2, 0);
        x.rule(x.term(2, 2, gv), 2);
        x.rule(x.term(2, 3, 3), 3);
        int many = x.count(1);
        due("v and g(v)", x.pairs(), 0);
        due("nothing is made", x.count(1), many);
        x.rule(x.term(2, 2, 3), 2);
        due("v and w, with both others", x.pairs(), 4);
    }

    /** The same, with a VARIABLE beside that is not in the round. */
    private static void withinItselfBeside() {
        for (int code = 0; code < 64; code++) {
            int a = code / 16;
            int b = code / 4 % 4;
            int c = code % 4;
            if (b != c) {
                RewriteChecks x = withVariables();
                int v = x.variable(a);
                int beside = x.variable(b);
                int w = x.variable(c);
                x.rule(x.term(2, v, x.term(1, v, 0)), 0);
                x.rule(x.term(2, x.term(2, beside, w), w), 0);
                due("f(v, g(v)) and f(f(u, w), w), " + code, hasPairAtOne(x) ? 1 : 0, 0);
                x.on(1, false);
                x.rule(x.term(2, x.term(2, beside, beside), w), 0);
                // Two of both at 1, and one of the latter with itself at 3.
                due("f(v, g(v)) and f(f(u, u), w), " + code, x.pairs(), 3);
            }
        }
    }

    /** The TERM f(f(f(a, b), f(c, d)), f(f(e, f), f(g, h))). */
    private static int ofEight(RewriteChecks x, int... t) {
        int[] now = t;
        while (now.length > 1) {
            int[] next = new int[now.length / 2];
            for (int k = 0; k < next.length; k++) {
                next[k] = x.term(2, now[2 * k], now[2 * k + 1]);
            }
            now = next;
        }
        return now[0];
    }

    private static boolean hasPairAtOne(RewriteChecks x) {
        int many = x.pairs();
        for (int k = 0; k < many; k++) {
            if (x.pair(k, 0) == 0 && x.pair(k, 1) == 1 && x.pair(k, 2) == 1) {
                return true;
            }
        }
        return false;
    }

    /** The same, by four VARIABLES of each RULE in a round, in whatever order. */
    private static void withinItselfByMany() {
        for (int code = 0; code < 256; code++) {
            int[] p = {code / 64, code / 16 % 4, code / 4 % 4, code % 4};
            if ((1 << p[0] | 1 << p[1] | 1 << p[2] | 1 << p[3]) != 15) {
                continue;
            }
            for (int round = 0; round < 2; round++) {
                RewriteChecks x = withVariables();
                x.variable(2);
                x.variable(3);
                int[] v = new int[4];
                int[] g = new int[4];
                for (int k = 0; k < 4; k++) {
                    v[k] = x.variable(p[k]);
                    g[k] = x.term(1, v[k], 0);
                }
                int last = round == 0 ? 0 : g[3];
                int w0 = x.variable(p[2]);
                int w1 = x.variable(p[0]);
                int w2 = x.variable(p[3]);
                int w3 = x.variable(p[1]);
                x.rule(ofEight(x, v[0], g[0], v[1], g[1], v[2], g[2], v[3], last), 0);
                x.rule(ofEight(x, w3, w0, w0, w1, w1, w2, w2, w3), 0);
                due("round by eight, " + code, hasPairAtOne(x) ? 1 : 0, round == 0 ? 1 : 0);
            }
        }
    }

    /** "neither of SIZE above 30": all four of SIZE 30, at the deepest PLACE and at 1 */
    private static void largestRules() {
        RewriteChecks x = withVariables();
        x.sign(1, 1);
        int nestedV = nested(x, 1, 2, 29);
        int nestedC = nested(x, 1, 0, 29);
        int rightI = nested(x, 4, 1, 29);
        int rightJ = nested(x, 4, 0, 29);
        x.rule(nestedV, rightI);
        x.rule(nestedC, rightJ);
        x.on(0, false);
        x.on(1, false);
        x.rule(nestedV, rightI);
        x.rule(nestedC, rightJ);
        // 28 of RULE 2 with itself, 29 of RULE 2 with 3, 1 of 3 with 2, at PLACE 1.
        due("pairs()", x.pairs(), 28 + 29 + 1);
        long place = 1;
        for (int depth = 0; depth < 29; depth++) {
            duePair("PAIRS", x, 28 + depth, 2, 3, place, nested(x, 1, rightJ, depth), rightI);
            place *= 3;
        }
        duePair("PAIRS", x, 57, 3, 2, 1, rightI, rightJ);
    }

    /** The same, of a RULE that meets itself at each of its PLACES. */
    private static void manyDeepPlaces() {
        RewriteChecks x = withVariables();
        x.rule(nested(x, 1, 2, 29), 0);
        due("pairs()", x.pairs(), 28);
        long place = 3;
        for (int depth = 1; depth <= 28; depth++) {
            duePair("PAIRS", x, depth - 1, 0, 0, place, nested(x, 1, 0, depth), 0);
            place *= 3;
        }
    }

    /** "SIGNS 0 to 9": the last one in PAIRS */
    private static void lastSign() {
        RewriteChecks x = withVariables();
        for (int k = 4; k < 10; k++) {
            x.sign(2, 1);
        }
        int inner = x.term(9, 2, 3);
        x.rule(x.term(9, inner, 2), x.term(9, 2, inner));
        due("pairs()", x.pairs(), 1);
        due("the PLACE", x.pair(0, 2), 3);
        // 9(9(0, 1), 0) with 9(9(4, 5), 4) at 3: 0 is 9(4, 5), and 1 is 4.
        due("LEFT i with RIGHT j", x.pair(0, 3), x.term(9, x.term(9, 2, inner), inner));
        due("RIGHT i", x.pair(0, 4), x.term(9, inner, x.term(9, inner, 2)));
    }

    /** "by those that are the most general" */
    private static void mostGeneral() {
        RewriteChecks x = withVariables();
        int v2 = x.variable(2);
        int left = x.term(2, 2, x.term(2, 3, v2));
        x.rule(left, left);
        x.rule(x.term(2, 2, 3), x.term(2, 3, 2));
        due("pairs()", x.pairs(), 4);
        int first = x.term(2, x.term(2, 3, v2), 2);
        // f(0, f(1, 2)) and f(4, 5) at 1: 4 is 0, and 5 is f(1, 2)
        duePair("PAIRS", x, 1, 0, 1, 1, first, left);
    }

    /** "they are numbered anew from 0 on", as they are met along LEFT i */
    private static void numberedFromNought() {
        RewriteChecks x = withVariables();
        int v2 = x.variable(2);
        int v3 = x.variable(3);
        int gv3 = x.term(1, v3, 0);
        x.rule(x.term(2, gv3, v2), x.term(2, v2, v3));
        x.rule(x.term(1, v3, 0), v3);
        due("pairs()", x.pairs(), 1);
        // f(g(3), 2) is f(g(0), 1) anew
        duePair("PAIRS", x, 0, 0, 1, 3, x.term(2, 2, 3), x.term(2, 3, 2));
    }

    /** "(more than 8 can't be" */
    private static void sevenVariables() {
        RewriteChecks x = withVariables();
        int v2 = x.variable(2);
        int v3 = x.variable(3);
        int left = x.term(2, x.term(2, 2, 0), x.term(2, 3, x.term(2, v2, v3)));
        x.rule(left, left);
        int four = x.term(2, x.term(2, 2, 3), x.term(2, v2, v3));
        x.rule(x.term(2, four, 0), four);
        int n = x.pairs();
        int met = 0;
        for (int k = 0; k < n; k++) {
            if (x.pair(k, 0) == 0 && x.pair(k, 1) == 1 && x.pair(k, 2) == 3) {
                met++;
                int second = (int) x.pair(k, 4);
                for (int v = 0; v < 8; v++) {
                    due("VARIABLE " + v, x.of(second, 4, v), v < 7 ? 1 : 0);
                }
                int last = x.part(x.part(x.part(second, 1), 1), 1);
                due("the last one is met last", x.of(last, 1, 0), 6);
                int first = (int) x.pair(k, 3);
                due("RIGHT j at the PLACE", x.part(first, 0), four);
                due("what stands behind it", x.part(first, 1), x.part(second, 1));
            }
        }
        due("the PAIR with seven", met, 1);
    }

    /**
     * SIGNS 0 c, 1 g, and four more of one PART; eight RULES g(v) -> v, two of SIGN 2, one each of
     * SIGNS 3, 4 and 5 that meets itself: 56, 2, 1, 1 and 1 PAIRS. The last one makes a TERM.
     */
    private static RewriteChecks many(int terms) {
        RewriteChecks x = withSigns(0, 1, 1, 1, 1, 1, 1);
        int c = x.term(0, 0, 0);
        int v = x.variable(0);
        int[] one = new int[7];
        int[] two = new int[7];
        for (int s = 1; s <= 6; s++) {
            one[s] = x.term(s, v, 0);
            two[s] = x.term(s, one[s], 0);
        }
        if (terms > 0) {
            Fill.to(x, c, 6, terms);
        } else {
            x.rule(c, c);
            x.rule(c, c);
            x.on(0, false);
            x.on(1, false);
        }
        for (int k = 0; k < 10; k++) {
            x.rule(k < 8 ? one[1] : one[2], v);
        }
        x.rule(two[3], v);
        x.rule(two[4], v);
        x.rule(two[5], c);
        return x;
    }

    /** "PAIRS, 60 at most (as they are met; others are left out)" */
    private static void sixtyAtMost() {
        RewriteChecks x = many(0);
        x.on(13, false);
        x.on(14, false);
        due("59 PAIRS", x.pairs(), 59);
        due("pair(58, 0)", x.pair(58, 0), 12);
        due("pair(59, 0)", x.pair(59, 0), BAD);
        x.on(13, true);
        due("60 PAIRS", x.pairs(), 60);
        due("pair(59, 0)", x.pair(59, 0), 13);
        due("pair(60, 0)", x.pair(60, 0), BAD);
        x.on(14, true);
        due("61 PAIRS", x.pairs(), 60);
        due("count(3)", x.count(3), 60);
        due("pair(59, 0)", x.pair(59, 0), 13);
        due("pair(60, 0)", x.pair(60, 0), BAD);
        due("pair(60, 5)", x.pair(60, 5), BAD);
        due("pair(59, 5)", x.pair(59, 5), 1);
        x.on(12, false);
        due("60 PAIRS, the last one of RULE 14", x.pairs(), 60);
        due("pair(59, 0)", x.pair(59, 0), 14);
    }

    /** "others are left out": no TERM is made of them, and none of them is FULL */
    private static void leftOutMakesNothing() {
        RewriteChecks x = many(0);
        int terms = x.count(1);
        due("61 PAIRS", x.pairs(), 60);
        due("count(1)", x.count(1), terms);
        x.on(13, false);
        due("60 PAIRS", x.pairs(), 60);
        due("count(1)", x.count(1), terms + 1);
        RewriteChecks y = many(1000);
        due("61 PAIRS, full", y.pairs(), 60);
        y.on(13, false);
        due("60 PAIRS, the last one of which makes a TERM", y.pairs(), FULL);
        due("PAIRS as told last", y.pair(59, 0), 13);
        RewriteChecks z = many(999);
        z.on(13, false);
        due("60 PAIRS, the last one of which makes the last TERM", z.pairs(), 60);
        due("pair(59, 3)", z.pair(59, 3), 999);
    }

    // Of tight(): RULES that are OFF at first.
    private static final int D_TO_E = 4, D_TO_D = 5, TWO_TERMS = 6, C_TO_C = 7;
    private static final int C = 0, D = 1, E = 2, GD = 5;

    /**
     * As many TERMS as are asked for, and two PAIRS told: g(c) -> g(d) is RULE 2, g(c) -> c is 3.
     * The RULE 6, g(g(v0)) -> f(v0, d), meets itself: that PAIR makes two TERMS.
     */
    private static RewriteChecks tight(int terms) {
        RewriteChecks x = withSigns(0, 1, 2, 0, 0, 1);
        int c = x.term(0, 0, 0);
        int d = x.term(3, 0, 0);
        int e = x.term(4, 0, 0);
        int v = x.variable(0);
        int gc = x.term(1, c, 0);
        int gd = x.term(1, d, 0);
        int ggv = x.term(1, x.term(1, v, 0), 0);
        int fvd = x.term(2, v, d);
        Fill.to(x, c, 5, terms);
        x.rule(gc, gd);
        x.rule(gc, c);
        x.pairs();
        x.rule(d, e);
        x.rule(d, d);
        x.rule(ggv, fvd);
        x.rule(c, c);
        for (int r = 4; r < 8; r++) {
            x.on(r, false);
        }
        return x;
    }

    private static RewriteChecks tightWithout(int terms) {
        RewriteChecks x = tight(terms);
        x.on(2, false);
        x.on(3, false);
        x.on(D_TO_E, true);
        x.on(D_TO_D, true);
        x.on(TWO_TERMS, true);
        return x;
    }

    /** "pairs: FULL"; "1000 at most" */
    private static void lastTermsOfPairs() {
        RewriteChecks x = tight(998);
        due("count(1)", x.count(1), 998);
        due("count(3)", x.count(3), 2);
        duePair("PAIRS", x, 0, 2, 3, 1, C, GD, 0);
        duePair("PAIRS", x, 1, 3, 2, 1, GD, C, 0);
        RewriteChecks y = tightWithout(998);
        due("the last two TERMS", y.pairs(), 3);
        duePair("PAIRS", y, 0, D_TO_E, D_TO_D, 1, D, E);
        duePair("PAIRS", y, 1, D_TO_D, D_TO_E, 1, E, D);
        duePair("PAIRS", y, 2, TWO_TERMS, TWO_TERMS, 3, 998, 999);
        due("count(1)", y.count(1), 1000);
        due("once more", y.pairs(), 3);
    }

    /** "FULL: then nothing changes, also no TERM is made": PAIRS as told last stay, too */
    private static void refusedPairs() {
        Refusal second = new Refusal(CHECK, () -> tightWithout(999));
        second.due("pairs(), the second TERM being one too many", RewriteChecks::pairs, FULL);
        Refusal first = new Refusal(CHECK, () -> tightWithout(1000));
        first.due("pairs(), the first TERM being one too many", RewriteChecks::pairs, FULL);
        RewriteChecks x = tightWithout(999);
        due("pairs()", x.pairs(), FULL);
        due("pairs()", x.pairs(), FULL);
        due("count(3)", x.count(3), 2);
        duePair("PAIRS", x, 0, 2, 3, 1, C, GD);
        x.on(TWO_TERMS, false);
        due("without the large one", x.pairs(), 2);
        duePair("PAIRS", x, 0, D_TO_E, D_TO_D, 1, D, E);
    }

    /** "Of PAIR k as told last"; "BAD" */
    private static void pairNumbers() {
        RewriteChecks x = tight(120);
        for (int what = 0; what <= 5; what++) {
            due("pair(1, " + what + ") is there", x.pair(1, what) == BAD ? 1 : 0, 0);
            for (int wrong : new int[] {LEAST, -1, 2, 59, 60, MOST}) {
                due("pair(" + wrong + ", " + what + ")", x.pair(wrong, what), BAD);
            }
        }
        RewriteChecks y = withVariables();
        y.rule(0, 1);
        y.rule(0, 0);
        due("pair(0, 0), not told yet", y.pair(0, 0), BAD);
        due("pairs()", y.pairs(), 2);
        due("pair(0, 0)", y.pair(0, 0), 0);
    }

    /** "what = 0, 1 the RULES i, j; 2 the PLACE; 3, 4 the TERMS; 5 JOINED" */
    private static void pairWhats() {
        RewriteChecks x = tight(120);
        duePair("PAIRS", x, 0, 2, 3, 1, C, GD, 0);
        for (int wrong : new int[] {LEAST, -2, -1, 6, 7, MOST}) {
            due("pair(0, " + wrong + ")", x.pair(0, wrong), BAD);
            due("pair(2, " + wrong + ")", x.pair(2, wrong), BAD);
        }
        Refusal refused = new Refusal(CHECK, () -> tight(120));
        refused.due("pair(0, 6)", y -> y.pair(0, 6), BAD);
        refused.due("pair(0, -1)", y -> y.pair(0, -1), BAD);
        refused.due("pair(2, 0)", y -> y.pair(2, 0), BAD);
        refused.due("pair(-1, 5)", y -> y.pair(-1, 5), BAD);
    }

    /** "PAIRS are told anew: how many." */
    private static void toldAnew() {
        RewriteChecks x = tight(120);
        x.rule(D, D);
        x.on(2, false);
        due("as told last", x.count(3), 2);
        duePair("PAIRS", x, 1, 3, 2, 1);
        due("fewer", x.pairs(), 0);
        due("count(3)", x.count(3), 0);
        due("pair(0, 0)", x.pair(0, 0), BAD);
        x.on(2, true);
        x.on(D_TO_E, true);
        due("more", x.pairs(), 4);
        duePair("PAIRS", x, 0, 2, 3, 1);
        duePair("PAIRS", x, 1, 3, 2, 1);
        duePair("PAIRS", x, 2, D_TO_E, 8, 1);
        due("the same again", x.pairs(), 4);
    }

    /** "A PAIR is JOINED, if both have the same NORMAL (way 0)": 1, 0 */
    private static void joined() {
        RewriteChecks x = withVariables();
        int gc = x.term(1, 0, 0);
        x.rule(gc, 0);
        x.rule(gc, 0);
        x.rule(gc, 1);
        due("pairs()", x.pairs(), 6);
        duePair("PAIRS", x, 0, 0, 1, 1, 0, 0, 1);
        duePair("PAIRS", x, 1, 0, 2, 1, 1, 0, 0);
        x.rule(1, 0);
        due("by one STEP of the first one", x.pair(1, 5), 1);
        due("by one STEP of the second one", x.pair(4, 5), 1);
    }

    /** The same, by as many STEPS as there may be. */
    private static void joinedBehindHundred() {
        RewriteChecks x = withVariables();
        int t = 1;
        for (int k = 0; k < 25; k++) {
            t = x.term(1, t, 0);
        }
        int gv = x.term(1, 2, 0);
        x.rule(0, t);
        x.rule(0, 1);
        x.pairs();
        duePair("PAIRS", x, 0, 0, 1, 1, 1, t, 0);
        // Each g goes by 4 STEPS: g to four SIGNS in turn, then away.
        x.sign(1, 1);
        x.sign(1, 1);
        x.sign(1, 1);
        int[] one = {gv, x.term(4, 2, 0), x.term(5, 2, 0), x.term(6, 2, 0), 2};
        for (int k = 0; k < 4; k++) {
            x.rule(one[k], one[k + 1]);
        }
        due("100 STEPS", x.pair(0, 5), 1);
        due("100 STEPS of the first one", x.pair(1, 5), 1);
        int e = x.sign(0, 1);
        int te = x.term(e, 0, 0);
        x.rule(1, te);
        due("101 STEPS of the second one", x.pair(0, 5), OPEN);
        due("101 STEPS of the first one", x.pair(1, 5), OPEN);
    }

    /** "by RULES that are ON now" */
    private static void joinedByRulesNow() {
        RewriteChecks x = withVariables();
        int gc = x.term(1, 0, 0);
        x.rule(gc, 0);
        x.rule(gc, 1);
        x.rule(1, 0);
        due("pairs()", x.pairs(), 2);
        due("ON", x.pair(0, 5), 1);
        x.on(2, false);
        due("OFF", x.pair(0, 5), 0);
        x.on(0, false);
        x.on(1, false);
        due("all OFF", x.pair(0, 5), 0);
        due("PAIRS stay", x.pair(0, 3), 1);
        x.on(2, true);
        due("ON", x.pair(0, 5), 1);
        x.rule(0, 0);
        due("a new one", x.pair(0, 5), OPEN);
    }

    /** "OPEN, if one is OPEN"; "the second one is asked when the first one is not OPEN" */
    private static void joinedOpen() {
        RewriteChecks x = tight(1000);
        x.on(C_TO_C, true);
        due("the first one is OPEN", x.pair(0, 5), OPEN);
        due("the second one is OPEN", x.pair(1, 5), OPEN);
        x.on(D_TO_E, true);
        due("the second one, not asked, would be FULL", x.pair(0, 5), OPEN);
        due("the first one is FULL", x.pair(1, 5), FULL);
        RewriteChecks y = tight(120);
        y.on(C_TO_C, true);
        y.on(D_TO_E, true);
        due("the first one is OPEN", y.pair(0, 5), OPEN);
        due("g(e) is not made", y.count(1), 120);
        due("the second one is OPEN", y.pair(1, 5), OPEN);
        due("g(e) is made, and stays", y.count(1), 121);
        y.on(2, false);
        due("PAIRS told", y.pair(1, 5), OPEN);
        due("count(1)", y.count(1), 121);
    }

    /** "pair: FULL"; "1000 at most" */
    private static void lastTermOfJoined() {
        for (int k = 0; k < 2; k++) {
            RewriteChecks x = tight(999);
            x.on(D_TO_E, true);
            due("the last TERM", x.pair(k, 5), 0);
            due("count(1)", x.count(1), 1000);
            due("it is g(e)", x.part(999, 0), E);
            due("once more", x.pair(k, 5), 0);
        }
    }

    private static void refusedJoined() {
        Refusal refused = new Refusal(CHECK, () -> {
            RewriteChecks x = tight(1000);
            x.on(D_TO_E, true);
            return x;
        });
        refused.due("pair(0, 5), the second one being FULL", x -> x.pair(0, 5), FULL);
        refused.due("pair(1, 5), the first one being FULL", x -> x.pair(1, 5), FULL);
        refused.due("pair(2, 5)", x -> x.pair(2, 5), BAD);
        refused.due("pair(0, 6)", x -> x.pair(0, 6), BAD);
    }
}
