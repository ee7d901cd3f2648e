/** The edges of PAIRS: promises 12 and 13. Above each test stands its sentence. */
public final class EdgePairsTest {
    private static final int BAD = -2, FULL = -4, OPEN = -5;
    private static final int LEAST = Integer.MIN_VALUE, MOST = Integer.MAX_VALUE;
    private static final Check CHECK = new Check();

    public static void main(String[] args) {
        pairsOfNothing();
        bothOn();
        notOneIfTheSame();
        placesWithSign();
        fourGreater();
        withinItself();
        mostGeneral();
        numberedFromNought();
        sevenVariables();
        sixtyAtMost();
        leftOutMakesNothing();
        lastTermsOfPairs();
        refusedPairs();
        pairNumbers();
        pairWhats();
        toldAnew();
        joined();
        joinedBehindHundred();
        joinedByRulesNow();
        joinedOpen();
        lastTermOfJoined();
        refusedJoined();
        CHECK.finish();
    }

    private static void due(String call, long got, long want) {
        CHECK.due(call, got, want);
    }

    private static void duePair(RewriteChecks x, int k, long... want) {
        for (int what = 0; what < want.length; what++) {
            due("pair(" + k + ", " + what + ")", x.pair(k, what), want[what]);
        }
    }

    /** SIGNS 0 (c, no PARTS), 1 (g, one), 2 (f, two), 3 (d, none); TERMS 0 (c), 1 (d), 2 (v0), 3 (v1). */
    private static RewriteChecks small() {
        RewriteChecks x = new RewriteChecks();
        x.sign(0, 1);
        x.sign(1, 1);
        x.sign(2, 1);
        x.sign(0, 1);
        x.term(0, 0, 0);
        x.term(3, 0, 0);
        x.variable(0);
        x.variable(1);
        return x;
    }

    /** What is told of no RULES, of one alone, and of one that meets none. */
    private static void pairsOfNothing() {
        RewriteChecks x = small();
        due("no RULES", x.pairs(), 0);
        due("count(3)", x.count(3), 0);
        due("pair(0, 0)", x.pair(0, 0), BAD);
        x.rule(0, 1);
        due("one RULE", x.pairs(), 0);
        x.rule(1, 0);
        due("two that do not meet", x.pairs(), 0);
        due("count(1)", x.count(1), 4);
    }

    /** "(both ON, by numbers)" */
    private static void bothOn() {
        RewriteChecks x = small();
        for (int r = 0; r < 3; r++) {
            x.rule(0, 1);
        }
        long[][] all = {{0, 1, 1}, {0, 2, 1}, {1, 0, 1}, {1, 2, 1}, {2, 0, 1}, {2, 1, 1}};
        due("three ON", x.pairs(), 6);
        for (int k = 0; k < 6; k++) {
            duePair(x, k, all[k]);
        }
        x.on(1, false);
        due("two ON", x.pairs(), 2);
        duePair(x, 0, 0, 2, 1);
        duePair(x, 1, 2, 0, 1);
        x.on(2, false);
        due("one ON", x.pairs(), 0);
        x.on(0, false);
        due("none ON", x.pairs(), 0);
        x.on(1, true);
        x.on(2, true);
        due("the last two ON", x.pairs(), 2);
        duePair(x, 1, 2, 1, 1);
    }

    /** "(not 1, if i is j)" */
    private static void notOneIfTheSame() {
        RewriteChecks x = small();
        int gv = x.term(1, 2, 0);
        int ggv = x.term(1, gv, 0);
        int gggv = x.term(1, ggv, 0);
        x.rule(gggv, 2);
        due("with itself at 3 and 9", x.pairs(), 2);
        duePair(x, 0, 0, 0, 3, gv, gv, 1);
        duePair(x, 1, 0, 0, 9, ggv, ggv, 1);
        x.rule(gggv, 2);
        due("with another one at 1 too", x.pairs(), 2 + 3 + 3 + 2);
        duePair(x, 2, 0, 1, 1);
        duePair(x, 5, 1, 0, 1);
        duePair(x, 8, 1, 1, 3);
    }

    /** "each PLACE of LEFT i with a SIGN, as by way 0" */
    private static void placesWithSign() {
        RewriteChecks x = small();
        int fvc = x.term(2, 2, 0);
        int fcw = x.term(2, 0, 3);
        x.rule(x.term(2, fvc, fcw), 2);
        x.rule(0, 1);
        due("not at VARIABLES", x.pairs(), 2);
        duePair(x, 0, 0, 1, 10);
        duePair(x, 1, 0, 1, 12);
        x.on(1, false);
        x.rule(x.term(2, 2, 3), 2);
        due("ahead of their PARTS", x.pairs(), 3 + 1);
        duePair(x, 0, 0, 2, 1);
        duePair(x, 1, 0, 2, 3);
        duePair(x, 2, 0, 2, 4);
        duePair(x, 3, 2, 0, 1);
    }

    /** "the VARIABLES of j are taken 4 greater" */
    private static void fourGreater() {
        RewriteChecks x = small();
        x.rule(x.term(2, 2, 0), 2);
        x.rule(x.term(2, 1, 2), 2);
        due("f(v0, c) and f(d, v0)", x.pairs(), 2);
        duePair(x, 0, 0, 1, 1, 0, 1, 0);
        duePair(x, 1, 1, 0, 1, 1, 0, 0);
        RewriteChecks y = small();
        y.rule(y.term(2, 2, y.term(1, 2, 0)), 2);
        y.rule(y.term(2, y.term(1, 2, 0), 2), 2);
        due("f(v, g(v)) and f(g(v), v): round", y.pairs(), 0);
    }

    /** "can become the same by TERMS in place of VARIABLES": no TERM stands within itself */
    private static void withinItself() {
        RewriteChecks x = small();
        int gv = x.term(1, 2, 0);
        x.rule(x.term(2, 2, gv), 2);
        x.rule(x.term(2, 3, 3), 3);
        int many = x.count(1);
        due("v and g(v)", x.pairs(), 0);
        due("nothing is made", x.count(1), many);
        x.rule(x.term(2, 2, 3), 2);
        due("v and w, with both others", x.pairs(), 4);
    }

    /** "by those that are the most general" */
    private static void mostGeneral() {
        RewriteChecks x = small();
        int v2 = x.variable(2);
        int left = x.term(2, 2, x.term(2, 3, v2));
        x.rule(left, left);
        x.rule(x.term(2, 2, 3), x.term(2, 3, 2));
        due("pairs()", x.pairs(), 4);
        int first = x.term(2, x.term(2, 3, v2), 2);
        // f(0, f(1, 2)) and f(4, 5) at 1: 4 is 0, and 5 is f(1, 2)
        duePair(x, 1, 0, 1, 1, first, left);
    }

    /** "they are numbered anew from 0 on", as they are met along LEFT i */
    private static void numberedFromNought() {
        RewriteChecks x = small();
        int v2 = x.variable(2);
        int v3 = x.variable(3);
        int gv3 = x.term(1, v3, 0);
        x.rule(x.term(2, gv3, v2), x.term(2, v2, v3));
        x.rule(x.term(1, v3, 0), v3);
        due("pairs()", x.pairs(), 1);
        // f(g(3), 2) is f(g(0), 1) anew
        duePair(x, 0, 0, 1, 3, x.term(2, 2, 3), x.term(2, 3, 2));
    }

    /** "(more than 8 can't be" */
    private static void sevenVariables() {
        RewriteChecks x = small();
        int v2 = x.variable(2);
        int v3 = x.variable(3);
        int left = x.term(2, x.term(2, 2, 0), x.term(2, 3, x.term(2, v2, v3)));
        x.rule(left, left);
        int four = x.term(2, x.term(2, 2, 3), x.term(2, v2, v3));
        x.rule(x.term(2, four, 0), four);
        int n = x.pairs();
        int met = 0;
        for (int k = 0; k < n; k++) {
            if (x.pair(k, 0) == 0 && x.pair(k, 1) == 1 && x.pair(k, 2) == 3) {
                met++;
                int second = (int) x.pair(k, 4);
                for (int v = 0; v < 8; v++) {
                    due("VARIABLE " + v, x.of(second, 4, v), v < 7 ? 1 : 0);
                }
                int last = x.part(x.part(x.part(second, 1), 1), 1);
                due("the last one is met last", x.of(last, 1, 0), 6);
                int first = (int) x.pair(k, 3);
                due("RIGHT j at the PLACE", x.part(first, 0), four);
                due("what stands behind it", x.part(first, 1), x.part(second, 1));
            }
        }
        due("the PAIR with seven", met, 1);
    }

    /**
     * SIGNS 0 c, 1 g, and four more of one PART; eight RULES g(v) -> v, two of SIGN 2, one each of
     * SIGNS 3, 4 and 5 that meets itself: 56, 2, 1, 1 and 1 PAIRS. The last one makes a TERM.
     */
    private static RewriteChecks many(int terms) {
        RewriteChecks x = new RewriteChecks();
        x.sign(0, 1);
        for (int k = 0; k < 6; k++) {
            x.sign(1, 1);
        }
        int c = x.term(0, 0, 0);
        int v = x.variable(0);
        int[] one = new int[7];
        int[] two = new int[7];
        for (int s = 1; s <= 6; s++) {
            one[s] = x.term(s, v, 0);
            two[s] = x.term(s, one[s], 0);
        }
        if (terms > 0) {
            Fill.to(x, c, 6, terms);
        } else {
            x.rule(c, c);
            x.rule(c, c);
            x.on(0, false);
            x.on(1, false);
        }
        for (int k = 0; k < 10; k++) {
            x.rule(k < 8 ? one[1] : one[2], v);
        }
        x.rule(two[3], v);
        x.rule(two[4], v);
        x.rule(two[5], c);
        return x;
    }

    /** "PAIRS, 60 at most (as they are met; others are left out)" */
    private static void sixtyAtMost() {
        RewriteChecks x = many(0);
        x.on(13, false);
        x.on(14, false);
        due("59 PAIRS", x.pairs(), 59);
        due("pair(58, 0)", x.pair(58, 0), 12);
        due("pair(59, 0)", x.pair(59, 0), BAD);
        x.on(13, true);
        due("60 PAIRS", x.pairs(), 60);
        due("pair(59, 0)", x.pair(59, 0), 13);
        due("pair(60, 0)", x.pair(60, 0), BAD);
        x.on(14, true);
        due("61 PAIRS", x.pairs(), 60);
        due("count(3)", x.count(3), 60);
        due("pair(59, 0)", x.pair(59, 0), 13);
        due("pair(60, 0)", x.pair(60, 0), BAD);
        due("pair(60, 5)", x.pair(60, 5), BAD);
        due("pair(59, 5)", x.pair(59, 5), 1);
        x.on(12, false);
        due("60 PAIRS, the last one of RULE 14", x.pairs(), 60);
        due("pair(59, 0)", x.pair(59, 0), 14);
    }

    /** "others are left out": no TERM is made of them, and none of them is FULL */
    private static void leftOutMakesNothing() {
        RewriteChecks x = many(0);
        int terms = x.count(1);
        due("61 PAIRS", x.pairs(), 60);
        due("count(1)", x.count(1), terms);
        x.on(13, false);
        due("60 PAIRS", x.pairs(), 60);
        due("count(1)", x.count(1), terms + 1);
        RewriteChecks y = many(1000);
        due("61 PAIRS, full", y.pairs(), 60);
        y.on(13, false);
        due("60 PAIRS, the last one of which makes a TERM", y.pairs(), FULL);
        due("PAIRS as told last", y.pair(59, 0), 13);
        RewriteChecks z = many(999);
        z.on(13, false);
        due("60 PAIRS, the last one of which makes the last TERM", z.pairs(), 60);
        due("pair(59, 3)", z.pair(59, 3), 999);
    }

    // Of tight(): RULES that are OFF at first.
    private static final int D_TO_E = 4, D_TO_D = 5, TWO_TERMS = 6, C_TO_C = 7;
    private static final int C = 0, D = 1, E = 2, GD = 5;

    /**
     * As many TERMS as are asked for, and two PAIRS told: g(c) -> g(d) is RULE 2, g(c) -> c is 3.
     * The RULE 6, g(g(v0)) -> f(v0, d), meets itself: that PAIR makes two TERMS.
     */
    private static RewriteChecks tight(int terms) {
        RewriteChecks x = new RewriteChecks();
        int[] arities = {0, 1, 2, 0, 0, 1};
        for (int arity : arities) {
            x.sign(arity, 1);
        }
        int c = x.term(0, 0, 0);
        int d = x.term(3, 0, 0);
        int e = x.term(4, 0, 0);
        int v = x.variable(0);
        int gc = x.term(1, c, 0);
        int gd = x.term(1, d, 0);
        int ggv = x.term(1, x.term(1, v, 0), 0);
        int fvd = x.term(2, v, d);
        Fill.to(x, c, 5, terms);
        x.rule(gc, gd);
        x.rule(gc, c);
        x.pairs();
        x.rule(d, e);
        x.rule(d, d);
        x.rule(ggv, fvd);
        x.rule(c, c);
        for (int r = 4; r < 8; r++) {
            x.on(r, false);
        }
        return x;
    }

    private static RewriteChecks tightWithout(int terms) {
        RewriteChecks x = tight(terms);
        x.on(2, false);
        x.on(3, false);
        x.on(D_TO_E, true);
        x.on(D_TO_D, true);
        x.on(TWO_TERMS, true);
        return x;
    }

    /** "pairs: FULL"; "1000 at most" */
    private static void lastTermsOfPairs() {
        RewriteChecks x = tight(998);
        due("count(1)", x.count(1), 998);
        due("count(3)", x.count(3), 2);
        duePair(x, 0, 2, 3, 1, C, GD, 0);
        duePair(x, 1, 3, 2, 1, GD, C, 0);
        RewriteChecks y = tightWithout(998);
        due("the last two TERMS", y.pairs(), 3);
        duePair(y, 0, D_TO_E, D_TO_D, 1, D, E);
        duePair(y, 1, D_TO_D, D_TO_E, 1, E, D);
        duePair(y, 2, TWO_TERMS, TWO_TERMS, 3, 998, 999);
        due("count(1)", y.count(1), 1000);
        due("once more", y.pairs(), 3);
    }

    /** "FULL: then nothing changes, also no TERM is made": PAIRS as told last stay, too */
    private static void refusedPairs() {
        Refusal second = new Refusal(CHECK, () -> tightWithout(999));
        second.due("pairs(), the second TERM being one too many", RewriteChecks::pairs, FULL);
        Refusal first = new Refusal(CHECK, () -> tightWithout(1000));
        first.due("pairs(), the first TERM being one too many", RewriteChecks::pairs, FULL);
        RewriteChecks x = tightWithout(999);
        due("pairs()", x.pairs(), FULL);
        due("pairs()", x.pairs(), FULL);
        due("count(3)", x.count(3), 2);
        duePair(x, 0, 2, 3, 1, C, GD);
        x.on(TWO_TERMS, false);
        due("without the large one", x.pairs(), 2);
        duePair(x, 0, D_TO_E, D_TO_D, 1, D, E);
    }

    /** "Of PAIR k as told last"; "BAD" */
    private static void pairNumbers() {
        RewriteChecks x = tight(120);
        for (int what = 0; what <= 5; what++) {
            due("pair(1, " + what + ") is there", x.pair(1, what) == BAD ? 1 : 0, 0);
            for (int wrong : new int[] {LEAST, -1, 2, 59, 60, MOST}) {
                due("pair(" + wrong + ", " + what + ")", x.pair(wrong, what), BAD);
            }
        }
        RewriteChecks y = small();
        y.rule(0, 1);
        y.rule(0, 0);
        due("pair(0, 0), not told yet", y.pair(0, 0), BAD);
        due("pairs()", y.pairs(), 2);
        due("pair(0, 0)", y.pair(0, 0), 0);
    }

    /** "what = 0, 1 the RULES i, j; 2 the PLACE; 3, 4 the TERMS; 5 JOINED" */
    private static void pairWhats() {
        RewriteChecks x = tight(120);
        duePair(x, 0, 2, 3, 1, C, GD, 0);
        for (int wrong : new int[] {LEAST, -2, -1, 6, 7, MOST}) {
            due("pair(0, " + wrong + ")", x.pair(0, wrong), BAD);
            due("pair(2, " + wrong + ")", x.pair(2, wrong), BAD);
        }
        Refusal refused = new Refusal(CHECK, () -> tight(120));
        refused.due("pair(0, 6)", y -> y.pair(0, 6), BAD);
        refused.due("pair(0, -1)", y -> y.pair(0, -1), BAD);
        refused.due("pair(2, 0)", y -> y.pair(2, 0), BAD);
        refused.due("pair(-1, 5)", y -> y.pair(-1, 5), BAD);
    }

    /** "PAIRS are told anew: how many." */
    private static void toldAnew() {
        RewriteChecks x = tight(120);
        x.rule(D, D);
        x.on(2, false);
        due("as told last", x.count(3), 2);
        duePair(x, 1, 3, 2, 1);
        due("fewer", x.pairs(), 0);
        due("count(3)", x.count(3), 0);
        due("pair(0, 0)", x.pair(0, 0), BAD);
        x.on(2, true);
        x.on(D_TO_E, true);
        due("more", x.pairs(), 4);
        duePair(x, 0, 2, 3, 1);
        duePair(x, 1, 3, 2, 1);
        duePair(x, 2, D_TO_E, 8, 1);
        due("the same again", x.pairs(), 4);
    }

    /** "A PAIR is JOINED, if both have the same NORMAL (way 0)": 1, 0 */
    private static void joined() {
        RewriteChecks x = small();
        int gc = x.term(1, 0, 0);
        x.rule(gc, 0);
        x.rule(gc, 0);
        x.rule(gc, 1);
        due("pairs()", x.pairs(), 6);
        duePair(x, 0, 0, 1, 1, 0, 0, 1);
        duePair(x, 1, 0, 2, 1, 1, 0, 0);
        x.rule(1, 0);
        due("by one STEP of the first one", x.pair(1, 5), 1);
        due("by one STEP of the second one", x.pair(4, 5), 1);
    }

    /** The same, by as many STEPS as there may be. */
    private static void joinedBehindHundred() {
        RewriteChecks x = small();
        int t = 1;
        for (int k = 0; k < 25; k++) {
            t = x.term(1, t, 0);
        }
        int gv = x.term(1, 2, 0);
        x.rule(0, t);
        x.rule(0, 1);
        x.pairs();
        duePair(x, 0, 0, 1, 1, 1, t, 0);
        // Each g goes by 4 STEPS: g to four SIGNS in turn, then away.
        x.sign(1, 1);
        x.sign(1, 1);
        x.sign(1, 1);
        int[] one = {gv, x.term(4, 2, 0), x.term(5, 2, 0), x.term(6, 2, 0), 2};
        for (int k = 0; k < 4; k++) {
            x.rule(one[k], one[k + 1]);
        }
        due("100 STEPS", x.pair(0, 5), 1);
        due("100 STEPS of the first one", x.pair(1, 5), 1);
        int e = x.sign(0, 1);
        int te = x.term(e, 0, 0);
        x.rule(1, te);
        due("101 STEPS of the second one", x.pair(0, 5), OPEN);
        due("101 STEPS of the first one", x.pair(1, 5), OPEN);
    }

    /** "by RULES that are ON now" */
    private static void joinedByRulesNow() {
        RewriteChecks x = small();
        int gc = x.term(1, 0, 0);
        x.rule(gc, 0);
        x.rule(gc, 1);
        x.rule(1, 0);
        due("pairs()", x.pairs(), 2);
        due("ON", x.pair(0, 5), 1);
        x.on(2, false);
        due("OFF", x.pair(0, 5), 0);
        x.on(0, false);
        x.on(1, false);
        due("all OFF", x.pair(0, 5), 0);
        due("PAIRS stay", x.pair(0, 3), 1);
        x.on(2, true);
        due("ON", x.pair(0, 5), 1);
        x.rule(0, 0);
        due("a new one", x.pair(0, 5), OPEN);
    }

    /** "OPEN, if one is OPEN"; "the second one is asked when the first one is not OPEN" */
    private static void joinedOpen() {
        RewriteChecks x = tight(1000);
        x.on(C_TO_C, true);
        due("the first one is OPEN", x.pair(0, 5), OPEN);
        due("the second one is OPEN", x.pair(1, 5), OPEN);
        x.on(D_TO_E, true);
        due("the second one, not asked, would be FULL", x.pair(0, 5), OPEN);
        due("the first one is FULL", x.pair(1, 5), FULL);
        RewriteChecks y = tight(120);
        y.on(C_TO_C, true);
        y.on(D_TO_E, true);
        due("the first one is OPEN", y.pair(0, 5), OPEN);
        due("g(e) is not made", y.count(1), 120);
        due("the second one is OPEN", y.pair(1, 5), OPEN);
        due("g(e) is made, and stays", y.count(1), 121);
        y.on(2, false);
        due("PAIRS told", y.pair(1, 5), OPEN);
        due("count(1)", y.count(1), 121);
    }

    /** "pair: FULL"; "1000 at most" */
    private static void lastTermOfJoined() {
        for (int k = 0; k < 2; k++) {
            RewriteChecks x = tight(999);
            x.on(D_TO_E, true);
            due("the last TERM", x.pair(k, 5), 0);
            due("count(1)", x.count(1), 1000);
            due("it is g(e)", x.part(999, 0), E);
            due("once more", x.pair(k, 5), 0);
        }
    }

    private static void refusedJoined() {
        Refusal refused = new Refusal(CHECK, () -> {
            RewriteChecks x = tight(1000);
            x.on(D_TO_E, true);
            return x;
        });
        refused.due("pair(0, 5), the second one being FULL", x -> x.pair(0, 5), FULL);
        refused.due("pair(1, 5), the first one being FULL", x -> x.pair(1, 5), FULL);
        refused.due("pair(2, 5)", x -> x.pair(2, 5), BAD);
        refused.due("pair(0, 6)", x -> x.pair(0, 6), BAD);
    }
}
