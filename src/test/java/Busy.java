/**
 * An object on which all has been done already, with as many TERMS as are asked for, so that a
 * refused call has much to spoil.
 *
 * SIGNS: 0 c, 1 g (one PART), 2 f (two), 3 d. TERMS: see below; from 8 on g(c), g(g(c)) and so on.
 * RULES: 0 c -> g(c) and 1 c -> g(..g(c)), nested 10 deep, both OFF; 2 f(v0, v1) -> v1; 3 d -> c;
 * 4 f(v0, v0) -> v0.
 */
final class Busy {
    static final int C = 0, D = 1, V0 = 2, V1 = 3, FVW = 4, GV = 5, FVV = 6, FCD = 7;

    private Busy() {
    }

    /** The last TERM is the deepest one: a STEP by RULE 0 makes one more TERM of it. */
    static RewriteChecks of(int terms) {
        RewriteChecks x = Dues.small();
        x.variable(0);
        x.variable(1);
        x.term(2, V0, V1);
        x.term(1, V0, 0);
        x.term(2, V0, V0);
        x.term(2, C, D);
        Fill.to(x, C, 1, terms);
        x.rule(FVW, V1);
        x.rule(D, C);
        x.rule(FVV, V0);
        x.pairs();
        x.tables(2);
        x.has(1, 2);
        x.cell(2, 1, 1, 1);
        x.cell(1, 2, 0, 2);
        x.judge(2);
        x.normal(FCD, 0);
        return x;
    }

    /** The same with one RULE turned ON or OFF. */
    static RewriteChecks of(int terms, int rule, boolean is) {
        RewriteChecks x = of(terms);
        x.on(rule, is);
        return x;
    }
}
