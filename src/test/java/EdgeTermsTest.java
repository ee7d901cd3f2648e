/**
 * The edges that the document names in "Terms" and in promises 1 to 4 and 20 to 23. Above each test
 * stands the sentence that it is of.
 */
public final class EdgeTermsTest extends Dues {
    private static final long CAP = 1_000_000_000_000_000L;

    public static void main(String[] args) {
        nothingAtFirst();
        arities();
        weights();
        tenSigns();
        refusedSigns();
        eightVariables();
        refusedVariables();
        signsOfTerms();
        asManyAsArity();
        beyondArity();
        noTwoTheSame();
        behindParts();
        thousandVariables();
        thousandTerms();
        refusedTerms();
        eachAsOften();
        variableWeighsOne();
        sizesToTheCap();
        weightsToTheCap();
        countsToTheCap();
        beyondTheCap();
        whatOf();
        whichVariableOf();
        termsOf();
        partsOf();
        partThrown();
        counts();
        clearOfAll();
        clearMakesRoom();
        CHECK.finish();
    }

    /** SIGNS 0 (c, no PARTS), 1 (g, one), 2 (f, two); the TERM 0 is c. */
    private static RewriteChecks three() {
        RewriteChecks x = withSigns(0, 1, 2);
        x.term(0, 0, 0);
        return x;
    }

    private static RewriteChecks filled(int many) {
        RewriteChecks x = three();
        Fill.to(x, 0, 1, many);
        due("TERMS at the start", x.count(1), many);
        return x;
    }

    /** "No SIGNS, TERMS, RULES, TABLES." What is made first has the number 0. */
    private static void nothingAtFirst() {
        RewriteChecks x = new RewriteChecks();
        for (int what = 0; what <= 4; what++) {
            due("count(" + what + ")", x.count(what), 0);
        }
        due("pairs() of no RULES", x.pairs(), 0);
        due("the first SIGN", x.sign(0, 1), 0);
        due("the first TERM", x.term(0, 0, 0), 0);
        due("the first RULE", x.rule(0, 0), 0);
        due("value(0) without TABLES", x.value(0), STATE);
        due("used(NONE, 1)", x.used(NONE, 1), 0);
        for (int v = 0; v < 4; v++) {
            due("refuted(" + v + ")", x.refuted(v), NONE);
        }
    }

    /** "SIGNS .. have an ARITY (0 to 2)" */
    private static void arities() {
        RewriteChecks x = new RewriteChecks();
        for (int wrong : new int[] {LEAST, -2, -1, 3, 4, MOST}) {
            due("sign(" + wrong + ", 1)", x.sign(wrong, 1), BAD);
        }
        due("count(0)", x.count(0), 0);
        for (int arity = 0; arity <= 2; arity++) {
            due("sign(" + arity + ", 1)", x.sign(arity, 1), arity);
        }
        due("count(0)", x.count(0), 3);
    }

    /** "and a WEIGHT (1 to 9)" */
    private static void weights() {
        RewriteChecks x = new RewriteChecks();
        for (int wrong : new int[] {LEAST, -1, 0, 10, 11, MOST}) {
            due("sign(0, " + wrong + ")", x.sign(0, wrong), BAD);
        }
        due("count(0)", x.count(0), 0);
        for (int weight = 1; weight <= 9; weight++) {
            due("sign(0, " + weight + ")", x.sign(0, weight), weight - 1);
            due("its TERM", x.term(weight - 1, 0, 0), weight - 1);
            due("its WEIGHT", x.of(weight - 1, 3, 0), weight);
        }
    }

    /** "SIGNS 0 to 9"; "A SIGN: its number. BAD; FULL." */
    private static void tenSigns() {
        RewriteChecks x = new RewriteChecks();
        for (int k = 0; k <= 9; k++) {
            due("SIGN " + k, x.sign(2, 9), k);
        }
        due("an eleventh SIGN", x.sign(2, 9), FULL);
        due("an eleventh SIGN once more", x.sign(0, 1), FULL);
        due("BAD ahead of FULL", x.sign(3, 9), BAD);
        due("BAD ahead of FULL", x.sign(0, 0), BAD);
        due("count(0)", x.count(0), 10);
        x.variable(0);
        due("the last SIGN is there", x.term(9, 0, 0), 1);
        due("its ARITY is 2", x.part(1, 1), 0);
        due("its WEIGHT is 9", x.of(1, 3, 0), 11);
        due("no SIGN 10", x.term(10, 0, 0), BAD);
    }

    private static void refusedSigns() {
        Refusal few = new Refusal(CHECK, EdgeTermsTest::three);
        few.due("sign(3, 1)", x -> x.sign(3, 1), BAD);
        few.due("sign(0, 10)", x -> x.sign(0, 10), BAD);
        Refusal full = new Refusal(CHECK, () -> {
            RewriteChecks x = three();
            for (int k = 3; k < 10; k++) {
                x.sign(k % 3, k % 9 + 1);
                x.term(k, 0, 0);
            }
            return x;
        });
        full.due("sign(0, 9)", x -> x.sign(0, 9), FULL);
    }

    /** "VARIABLES 0 to 7" */
    private static void eightVariables() {
        RewriteChecks x = new RewriteChecks();
        for (int wrong : new int[] {LEAST, -2, -1, 8, 9, MOST}) {
            due("variable(" + wrong + ")", x.variable(wrong), BAD);
        }
        due("count(1)", x.count(1), 0);
        for (int v = 0; v <= 7; v++) {
            due("variable(" + v + ")", x.variable(v), v);
            due("which one it is", x.of(v, 1, 0), v);
        }
        due("count(1)", x.count(1), 8);
    }

    private static void refusedVariables() {
        Refusal few = new Refusal(CHECK, EdgeTermsTest::three);
        few.due("variable(-1)", x -> x.variable(-1), BAD);
        few.due("variable(8)", x -> x.variable(8), BAD);
        Refusal full = new Refusal(CHECK, () -> filled(1000));
        full.due("variable(7)", x -> x.variable(7), FULL);
        full.due("variable(8), full", x -> x.variable(8), BAD);
    }

    /** "there is no such thing": the SIGN of a TERM */
    private static void signsOfTerms() {
        RewriteChecks x = new RewriteChecks();
        due("term(0, 0, 0), no SIGN", x.term(0, 0, 0), BAD);
        x.sign(0, 1);
        for (int wrong : new int[] {LEAST, -1, 1, 9, 10, MOST}) {
            due("term(" + wrong + ", 0, 0)", x.term(wrong, 0, 0), BAD);
        }
        due("term(0, 0, 0)", x.term(0, 0, 0), 0);
        for (int k = 1; k < 10; k++) {
            x.sign(0, 1);
        }
        due("term(9, 0, 0)", x.term(9, 0, 0), 1);
        due("term(10, 0, 0)", x.term(10, 0, 0), BAD);
        due("count(1)", x.count(1), 2);
    }

    /** "a SIGN with as many TERMS as its ARITY (its PARTS)" */
    private static void asManyAsArity() {
        RewriteChecks x = three();
        x.variable(0);
        for (int wrong : new int[] {LEAST, -1, 2, 3, MOST}) {
            due("term(1, " + wrong + ", 0)", x.term(1, wrong, 0), BAD);
            due("term(2, " + wrong + ", 0)", x.term(2, wrong, 0), BAD);
            due("term(2, 0, " + wrong + ")", x.term(2, 0, wrong), BAD);
            due("term(2, " + wrong + ", " + wrong + ")", x.term(2, wrong, wrong), BAD);
        }
        due("count(1)", x.count(1), 2);
        due("term(1, 1, 0): of the last TERM", x.term(1, 1, 0), 2);
        due("term(2, 2, 0): of the last TERM", x.term(2, 2, 0), 3);
        due("term(2, 0, 3): of the last TERM", x.term(2, 0, 3), 4);
        due("term(2, 4, 4): of the last TERM", x.term(2, 4, 4), 5);
        due("term(1, 6, 0): of itself", x.term(1, 6, 0), BAD);
    }

    /** "(what is beyond its ARITY is not looked at)" */
    private static void beyondArity() {
        for (int odd : new int[] {LEAST, -1, 0, 1, 2, 1000, MOST}) {
            RewriteChecks x = three();
            due("term(0, " + odd + ", " + odd + ")", x.term(0, odd, odd), 0);
            due("term(1, 0, " + odd + ")", x.term(1, 0, odd), 1);
            due("term(1, 0, 0)", x.term(1, 0, 0), 1);
            due("count(1)", x.count(1), 2);
        }
    }

    /** "No two TERMS are the same: what is there already is not made again" */
    private static void noTwoTheSame() {
        RewriteChecks x = three();
        for (int v = 0; v < 8; v++) {
            x.variable(v);
        }
        int g = x.term(1, 1, 0);
        int f = x.term(2, 1, 2);
        int turned = x.term(2, 2, 1);
        int many = x.count(1);
        due("how many there are", many, 12);
        for (int v = 0; v < 8; v++) {
            due("variable(" + v + ") again", x.variable(v), v + 1);
        }
        due("c again", x.term(0, 0, 0), 0);
        due("g(v0) again", x.term(1, 1, 9), g);
        due("f(v0, v1) again", x.term(2, 1, 2), f);
        due("f(v1, v0) again", x.term(2, 2, 1), turned);
        due("count(1)", x.count(1), many);
        x.rule(f, turned);
        due("a STEP to what is there", x.step(f, 0), turned);
        due("count(1)", x.count(1), many);
        due("NORMAL to what is there", x.normal(f, 0), OPEN);
        due("count(1)", x.count(1), many);
    }

    /** "what comes of something else is made behind its PARTS, the first ahead of the second one" */
    private static void behindParts() {
        RewriteChecks x = three();
        int v = x.variable(0);
        int w = x.variable(1);
        int gv = x.term(1, v, 0);
        int gw = x.term(1, w, 0);
        int ggv = x.term(1, gv, 0);
        x.rule(x.term(2, v, w), x.term(2, x.term(2, gw, ggv), gv));
        int u = x.variable(2);
        int t = x.term(2, 0, u);
        int many = x.count(1);
        // f(c, u) becomes f(f(g(u), g(g(c))), g(c)): g(u), g(c), g(g(c)), the inner f, the whole.
        due("step", x.step(t, 0), many + 4);
        due("g(u)", x.term(1, u, 0), many);
        due("g(c)", x.term(1, 0, 0), many + 1);
        due("g(g(c))", x.term(1, many + 1, 0), many + 2);
        due("f(g(u), g(g(c)))", x.term(2, many, many + 2), many + 3);
        due("the whole", x.term(2, many + 3, many + 1), many + 4);
        due("count(1)", x.count(1), many + 5);
    }

    /** "1000 at most": a VARIABLE */
    private static void thousandVariables() {
        RewriteChecks x = filled(999);
        due("the TERM 999", x.variable(5), 999);
        due("one more", x.variable(4), FULL);
        due("what is there", x.variable(5), 999);
        due("count(1)", x.count(1), 1000);
    }

    /** "1000 at most": a TERM with a SIGN */
    private static void thousandTerms() {
        RewriteChecks x = filled(999);
        due("the TERM 999", x.term(2, 998, 998), 999);
        due("a TERM of the TERM 999", x.term(1, 999, 0), FULL);
        due("a TERM of 1000", x.term(1, 1000, 0), BAD);
        due("a SIGN that is not there", x.term(3, 0, 0), BAD);
        due("what is there", x.term(2, 998, 998), 999);
        due("c is there", x.term(0, 0, 0), 0);
        due("count(1)", x.count(1), 1000);
        due("clear()", x.clear(), 1000);
    }

    private static void refusedTerms() {
        Refusal few = new Refusal(CHECK, EdgeTermsTest::three);
        few.due("term(3, 0, 0)", x -> x.term(3, 0, 0), BAD);
        few.due("term(1, 1, 0)", x -> x.term(1, 1, 0), BAD);
        few.due("term(2, 0, 1)", x -> x.term(2, 0, 1), BAD);
        Refusal full = new Refusal(CHECK, () -> filled(1000));
        full.due("term(2, 0, 0)", x -> x.term(2, 0, 0), FULL);
        full.due("term(2, 0, 1000), full", x -> x.term(2, 0, 1000), BAD);
    }

    /** "SIZE: 1, and the SIZES of all PARTS (each as often as it stands there)" */
    private static void eachAsOften() {
        RewriteChecks x = three();
        int v = x.variable(7);
        int fvv = x.term(2, v, v);
        int twice = x.term(2, fvv, fvv);
        due("SIZE of c", x.of(0, 2, 0), 1);
        due("SIZE of a VARIABLE", x.of(v, 2, 0), 1);
        due("SIZE of f(v, v)", x.of(fvv, 2, 0), 3);
        due("SIZE of f(f(v, v), f(v, v))", x.of(twice, 2, 0), 7);
        due("SIZE of g of it", x.of(x.term(1, twice, 0), 2, 0), 8);
        due("v in f(v, v)", x.of(fvv, 4, 7), 2);
        due("v in f(f(v, v), f(v, v))", x.of(twice, 4, 7), 4);
        due("v in g(c)", x.of(x.term(1, 0, 0), 4, 7), 0);
    }

    /** "THE WEIGHT of a VARIABLE is 1, of others that of the SIGN and those of all PARTS" */
    private static void variableWeighsOne() {
        RewriteChecks x = new RewriteChecks();
        x.sign(2, 9);
        x.sign(0, 8);
        int v = x.variable(0);
        int c = x.term(1, 0, 0);
        due("WEIGHT of a VARIABLE", x.of(v, 3, 0), 1);
        due("WEIGHT of c", x.of(c, 3, 0), 8);
        due("WEIGHT of f(v, v)", x.of(x.term(0, v, v), 3, 0), 11);
        due("WEIGHT of f(c, v)", x.of(x.term(0, c, v), 3, 0), 18);
        due("WEIGHT of f(c, c)", x.of(x.term(0, c, c), 3, 0), 25);
    }

    /** A TERM of such a SIZE: f doubles and adds 1, g adds 1. */
    private static int ofSize(RewriteChecks x, long size) {
        if (size == 1) {
            return x.term(0, 0, 0);
        }
        if (size % 2 == 0) {
            return x.term(1, ofSize(x, size - 1), 0);
        }
        int half = ofSize(x, (size - 1) / 2);
        return x.term(2, half, half);
    }

    /** "(sizes, weights, counts: up to 10^15; what is above is that)": sizes */
    private static void sizesToTheCap() {
        RewriteChecks x = three();
        int below = ofSize(x, CAP - 1);
        due("SIZE 10^15 - 1", x.of(below, 2, 0), CAP - 1);
        int at = x.term(1, below, 0);
        due("SIZE 10^15", x.of(at, 2, 0), CAP);
        int over = x.term(1, at, 0);
        due("SIZE 10^15 + 1", x.of(over, 2, 0), CAP);
        int half = ofSize(x, CAP / 2);
        due("SIZE 5 10^14", x.of(half, 2, 0), CAP / 2);
        due("twice that and 1", x.of(x.term(2, half, half), 2, 0), CAP);
        int less = x.term(2, half, ofSize(x, CAP / 2 - 2));
        due("SIZE 10^15 - 1 of two", x.of(less, 2, 0), CAP - 1);
    }

    /** The same of weights; g weighs 9, so that WEIGHTS leap over 10^15 */
    private static void weightsToTheCap() {
        RewriteChecks x = new RewriteChecks();
        x.sign(0, 1);
        x.sign(1, 1);
        x.sign(2, 1);
        x.sign(1, 9);
        int t = ofSize(x, CAP - 10);
        due("WEIGHT 10^15 - 10", x.of(t, 3, 0), CAP - 10);
        int below = x.term(3, t, 0);
        due("WEIGHT 10^15 - 1", x.of(below, 3, 0), CAP - 1);
        due("SIZE 10^15 - 9", x.of(below, 2, 0), CAP - 9);
        due("WEIGHT 10^15", x.of(x.term(1, below, 0), 3, 0), CAP);
        due("WEIGHT 10^15 + 8", x.of(x.term(3, below, 0), 3, 0), CAP);
        due("WEIGHT 2 10^15 - 1", x.of(x.term(2, below, below), 3, 0), CAP);
    }

    /** A TERM with the VARIABLE 6 so often. */
    private static int withCount(RewriteChecks x, long often) {
        if (often == 1) {
            return x.variable(6);
        }
        if (often % 2 == 1) {
            return x.term(2, withCount(x, often - 1), x.variable(6));
        }
        int half = withCount(x, often / 2);
        return x.term(2, half, half);
    }

    /** The same of counts */
    private static void countsToTheCap() {
        RewriteChecks x = three();
        int below = withCount(x, CAP - 1);
        due("10^15 - 1 times", x.of(below, 4, 6), CAP - 1);
        due("its SIZE is above", x.of(below, 2, 0), CAP);
        int v = x.variable(6);
        int at = x.term(2, below, v);
        due("10^15 times", x.of(at, 4, 6), CAP);
        due("10^15 + 1 times", x.of(x.term(2, v, at), 4, 6), CAP);
        due("another VARIABLE", x.of(at, 4, 5), 0);
    }

    /** "what is above is that": and what comes of it, without wrapping round */
    private static void beyondTheCap() {
        RewriteChecks x = three();
        int t = x.variable(7);
        for (int k = 0; k < 150; k++) {
            t = x.term(2, t, t);
        }
        due("SIZE of 2^151 - 1", x.of(t, 2, 0), CAP);
        due("WEIGHT of 2^151 - 1", x.of(t, 3, 0), CAP);
        due("2^150 times", x.of(t, 4, 7), CAP);
        due("no other", x.of(t, 4, 0), 0);
        due("above(t, t)", x.above(t, t), STATE);
        due("rule(t, t)", x.rule(t, t), STATE);
        due("normal(t, 1)", x.normal(t, 1), t);
    }

    /** "what = 0 its SIGN (NONE: a VARIABLE), 1 the VARIABLE (NONE), 2 its SIZE, 3 its WEIGHT, 4 .." */
    private static void whatOf() {
        RewriteChecks x = three();
        int v = x.variable(0);
        int g = x.term(1, v, 0);
        for (int wrong : new int[] {LEAST, -2, -1, 5, 6, MOST}) {
            due("of(g, " + wrong + ", 0)", x.of(g, wrong, 0), BAD);
        }
        due("the SIGN 0", x.of(0, 0, 0), 0);
        due("no VARIABLE", x.of(0, 1, 0), NONE);
        due("no SIGN", x.of(v, 0, 0), NONE);
        due("the VARIABLE 0", x.of(v, 1, 0), 0);
        due("the SIGN 1", x.of(g, 0, 0), 1);
        due("SIZE", x.of(g, 2, 0), 2);
        due("WEIGHT", x.of(g, 3, 0), 2);
        due("how often", x.of(g, 4, 0), 1);
    }

    /** "BAD: also i not 0 to 7 (what 4)" */
    private static void whichVariableOf() {
        RewriteChecks x = three();
        int v = x.variable(7);
        int w = x.variable(0);
        int f = x.term(2, v, x.term(2, w, v));
        due("of(f, 4, 0)", x.of(f, 4, 0), 1);
        due("of(f, 4, 7)", x.of(f, 4, 7), 2);
        for (int wrong : new int[] {LEAST, -1, 8, 9, MOST}) {
            due("of(f, 4, " + wrong + ")", x.of(f, 4, wrong), BAD);
            due("of(f, 0, " + wrong + ")", x.of(f, 0, wrong), 2);
            due("of(f, 1, " + wrong + ")", x.of(f, 1, wrong), NONE);
            due("of(f, 2, " + wrong + ")", x.of(f, 2, wrong), 5);
            due("of(f, 3, " + wrong + ")", x.of(f, 3, wrong), 5);
            due("of(f, 5, " + wrong + ")", x.of(f, 5, wrong), BAD);
        }
    }

    /** "there is no such thing": the TERM of of() */
    private static void termsOf() {
        RewriteChecks x = new RewriteChecks();
        due("of(0, 2, 0), no TERMS", x.of(0, 2, 0), BAD);
        x.variable(3);
        for (int wrong : new int[] {LEAST, -1, 1, 999, 1000, MOST}) {
            due("of(" + wrong + ", 2, 0)", x.of(wrong, 2, 0), BAD);
        }
        due("of(0, 2, 0)", x.of(0, 2, 0), 1);
        RewriteChecks y = filled(1000);
        due("of(999, 2, 0)", y.of(999, 2, 0), 1000);
        due("of(1000, 2, 0)", y.of(1000, 2, 0), BAD);
    }

    /** "PART i (0, 1) of a TERM: its number. BAD: no such TERM." */
    private static void partsOf() {
        RewriteChecks x = new RewriteChecks();
        due("part(0, 0), no TERMS", x.part(0, 0), BAD);
        RewriteChecks y = three();
        int v = y.variable(2);
        int g = y.term(1, v, 0);
        int f = y.term(2, g, 0);
        due("part(g, 0)", y.part(g, 0), v);
        due("part(f, 0)", y.part(f, 0), g);
        due("part(f, 1)", y.part(f, 1), 0);
        for (int wrong : new int[] {LEAST, -1, f + 1, 1000, MOST}) {
            due("part(" + wrong + ", 0)", Refusal.partOrThrown(y, wrong, 0), BAD);
            due("part(" + wrong + ", 2)", Refusal.partOrThrown(y, wrong, 2), BAD);
            due("part(" + wrong + ", -1)", Refusal.partOrThrown(y, wrong, -1), BAD);
        }
    }

    /** "ArrayIndexOutOfBoundsException: it has no such PART." */
    private static void partThrown() {
        RewriteChecks x = three();
        int v = x.variable(0);
        int g = x.term(1, v, 0);
        int f = x.term(2, v, v);
        int[] arities = {0, 0, 1, 2};
        int[] terms = {0, v, g, f};
        for (int k = 0; k < terms.length; k++) {
            for (int i : new int[] {LEAST, -2, -1, 0, 1, 2, 3, 1000, MOST}) {
                if (i < 0 || i >= arities[k]) {
                    CHECK.dueThrow("part(" + terms[k] + ", " + i + ")", x, terms[k], i);
                }
            }
        }
        Refusal thrown = new Refusal(CHECK, EdgeTermsTest::three);
        thrown.due("part(0, 0)", y -> Refusal.partOrThrown(y, 0, 0), Refusal.THROWN);
        thrown.due("part(1, 0)", y -> Refusal.partOrThrown(y, 1, 0), BAD);
    }

    /** "How many: 0 SIGNS, 1 TERMS, 2 RULES, 3 PAIRS as told last, 4 VALUES of TABLES (0: none). BAD." */
    private static void counts() {
        RewriteChecks x = three();
        x.rule(0, 0);
        x.rule(0, 0);
        x.pairs();
        x.tables(3);
        int[] want = {3, 1, 2, 2, 3};
        for (int what = 0; what <= 4; what++) {
            due("count(" + what + ")", x.count(what), want[what]);
        }
        for (int wrong : new int[] {LEAST, -2, -1, 5, 6, MOST}) {
            due("count(" + wrong + ")", x.count(wrong), BAD);
        }
        x.on(0, false);
        due("PAIRS as told last", x.count(3), 2);
    }

    /** "Nothing is there, as at first: how many TERMS there were." */
    private static void clearOfAll() {
        RewriteChecks x = three();
        int v = x.variable(0);
        int g = x.term(1, v, 0);
        int gg = x.term(1, g, 0);
        x.rule(gg, v);
        x.rule(g, 0);
        x.on(1, false);
        x.tables(2);
        x.has(0, 2);
        x.cell(1, 0, 0, 2);
        due("judge(1)", x.judge(1), 0);
        due("normal", x.normal(x.term(1, gg, 0), 0), g);
        due("pairs()", x.pairs(), 1);
        int many = x.count(1);
        due("clear()", x.clear(), many);
        Refusal asAtFirst = new Refusal(CHECK, RewriteChecks::new);
        asAtFirst.due("clear() of nothing", RewriteChecks::clear, 0);
        for (int what = 0; what <= 4; what++) {
            due("count(" + what + ")", x.count(what), 0);
        }
        due("used(NONE, 0)", x.used(NONE, 0), 0);
        due("used(0, 0)", x.used(0, 0), NONE);
        due("refuted(0)", x.refuted(0), NONE);
        due("pair(0, 0)", x.pair(0, 0), BAD);
        due("pairs()", x.pairs(), 0);
        due("on(0, true)", x.on(0, true), BAD);
        due("value(0)", x.value(0), STATE);
        due("has(0, 0)", x.has(0, 0), STATE);
        due("cell(1, 0, 0, 0)", x.cell(1, 0, 0, 0), STATE);
        due("a SIGN anew, of ARITY 0", x.sign(0, 7), 0);
        due("its TERM", x.term(0, 5, 5), 0);
        due("a RULE anew", x.rule(0, 0), 0);
        due("it is ON", x.on(0, true), 1);
        x.sign(1, 1);
        x.tables(3);
        due("its TABLE is all 0", x.cell(1, 0, 0, 1), 0);
        due("VARIABLES have 0", x.has(0, 1), 0);
        due("clear()", x.clear(), 1);
        due("clear()", x.clear(), 0);
    }

    /** Behind clear() there may be as much as at first. */
    private static void clearMakesRoom() {
        RewriteChecks x = filled(1000);
        for (int k = 3; k < 10; k++) {
            x.sign(0, 1);
        }
        for (int k = 2; k < 16; k++) {
            x.rule(0, 0);
        }
        due("a SIGN", x.sign(0, 1), FULL);
        due("a RULE", x.rule(0, 0), FULL);
        due("a TERM", x.variable(0), FULL);
        due("clear()", x.clear(), 1000);
        for (int k = 0; k < 10; k++) {
            due("SIGN " + k, x.sign(k < 3 ? k : 0, 1), k);
        }
        due("a TERM", x.term(0, 0, 0), 0);
        due("of those ahead of clear() none", x.of(1, 0, 0), BAD);
        Fill.to(x, 0, 1, 1000);
        due("count(1)", x.count(1), 1000);
        for (int k = 2; k < 16; k++) {
            due("RULE " + k, x.rule(0, 0), k);
        }
        due("a RULE", x.rule(0, 0), FULL);
    }
}
