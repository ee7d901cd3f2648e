/** Promises 10 and 11: which RULES end, which TERM is ABOVE which. */
public final class OrderTest extends Dues {

    public static void main(String[] args) {
        ends();
        above();
        parts();
        sizes();
        CHECK.finish();
    }

    private static void ends() {
        RewriteChecks x = new RewriteChecks();
        x.sign(1, 2);
        x.sign(1, 2);
        x.sign(2, 1);
        int v = x.variable(0);
        int w = x.variable(1);
        int g = x.term(0, v, 0);
        int h = x.term(1, v, 0);
        x.rule(h, g);
        x.rule(g, h);
        x.rule(h, v);
        x.rule(h, h);
        x.rule(x.term(0, g, 0), x.term(2, v, v));
        x.rule(x.term(2, v, w), x.term(2, w, v));
        int[] due = {1, 0, 1, 0, 0, 0};
        for (int k = 0; k < due.length; k++) {
            due("ends(" + k + ")", x.ends(k), due[k]);
        }
        x.on(0, false);
        due("ends(0), OFF", x.ends(0), 1);
        due("ends(-1)", x.ends(-1), BAD);
        due("ends(6)", x.ends(6), BAD);
    }

    private static void above() {
        RewriteChecks x = new RewriteChecks();
        x.sign(0, 1);
        x.sign(0, 3);
        x.sign(1, 1);
        x.sign(2, 1);
        int v = x.variable(0);
        int w = x.variable(7);
        int a = x.term(0, 0, 0);
        int b = x.term(1, 0, 0);
        int sv = x.term(2, v, 0);
        int fvw = x.term(3, v, w);
        int fvv = x.term(3, v, v);
        due("a VARIABLE and itself", x.above(v, v), 0);
        due("two VARIABLES", x.above(v, w), 0);
        due("a TERM and itself", x.above(fvw, fvw), 0);
        due("s(v), v", x.above(sv, v), 1);
        due("v, s(v)", x.above(v, sv), 0);
        due("b, a by weight", x.above(b, a), 1);
        due("a, b by weight", x.above(a, b), 0);
        due("b, v: no such VARIABLE in b", x.above(b, v), 0);
        due("a, v", x.above(a, v), 0);
        due("v, a of the same weight", x.above(v, a), 0);
        due("f(v, w), f(v, v)", x.above(fvw, fvv), 0);
        due("f(f(v, v), w), f(v, w)", x.above(x.term(3, fvv, w), fvw), 1);
        due("f(b, b), s(v)", x.above(x.term(3, b, b), sv), 0);
        int bv = x.term(3, b, v);
        due("f(b, v), f(v, a)", x.above(bv, x.term(3, v, a)), 1);
        due("f(v, a), s(s(v)) of the same weight", x.above(x.term(3, v, a), x.term(2, sv, 0)), 1);
        due("s(s(v)), f(v, a)", x.above(x.term(2, sv, 0), x.term(3, v, a)), 0);
        due("above(-1, v)", x.above(-1, v), BAD);
        due("above(v, 1000)", x.above(v, 1000), BAD);
    }

    private static void parts() {
        RewriteChecks x = new RewriteChecks();
        x.sign(0, 2);
        x.sign(0, 2);
        x.sign(0, 4);
        x.sign(2, 1);
        int v = x.variable(0);
        int a = x.term(0, 0, 0);
        int b = x.term(1, 0, 0);
        int c = x.term(2, 0, 0);
        due("f(b, a), f(a, b)", x.above(x.term(3, b, a), x.term(3, a, b)), 1);
        due("f(a, b), f(b, a)", x.above(x.term(3, a, b), x.term(3, b, a)), 0);
        due("f(a, b), f(a, a)", x.above(x.term(3, a, b), x.term(3, a, a)), 1);
        due("f(c, a), f(a, c)", x.above(x.term(3, c, a), x.term(3, a, c)), 1);
        due("f(a, c), f(c, a)", x.above(x.term(3, a, c), x.term(3, c, a)), 0);
        int av = x.term(3, a, v);
        int va = x.term(3, v, a);
        int vv = x.term(3, v, v);
        // The first PARTS that differ: a has no v, though a is heavier.
        due("f(a, v), f(v, a)", x.above(av, va), 0);
        due("f(v, a), f(a, v)", x.above(va, av), 0);
        int deep = x.term(3, x.term(3, b, v), a);
        due("f(f(b, v), a), f(f(a, v), b)", x.above(deep, x.term(3, av, b)), 1);
        due("f(f(v, v), a), f(f(v, v), a)", x.above(x.term(3, vv, a), x.term(3, vv, a)), 0);
    }

    private static void sizes() {
        RewriteChecks x = withSigns(1);
        int v = x.variable(0);
        int t = v;
        for (int k = 0; k < 29; k++) {
            t = x.term(0, t, 0);
        }
        int u = x.term(0, t, 0);
        due("SIZE 30, 1", x.above(t, v), 1);
        due("SIZE 30, 30", x.above(t, t), 0);
        due("SIZE 31, 1", x.above(u, v), STATE);
        due("SIZE 1, 31", x.above(v, u), STATE);
        due("BAD goes first", x.above(u, -1), BAD);
    }
}
