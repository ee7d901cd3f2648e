import java.util.ArrayList;
import java.util.List;
import java.util.function.Supplier;
import java.util.function.ToLongFunction;

/** Refused calls: behind one, an object must tell all that one tells on which it was not done. */
final class Refusal {
    /** Stands for the exception of part(), which is no answer. */
    static final long THROWN = 1_000_000;
    private static final int MOST_TOLD = 12;

    private final Check check;
    private final Supplier<RewriteChecks> start;
    private final List<String> names = new ArrayList<>();
    private final List<Long> untouched;

    /** The supplier makes the same object each time, by no more than 150 calls. */
    Refusal(Check check, Supplier<RewriteChecks> start) {
        this.check = check;
        this.start = start;
        untouched = tellings(start.get());
    }

    void due(String name, ToLongFunction<RewriteChecks> call, long want) {
        RewriteChecks x = start.get();
        check.due(name, call.applyAsLong(x), want);
        List<Long> now = tellings(x);
        check.due(name + ": how much is told behind it", now.size(), untouched.size());
        for (int k = 0; k < now.size() && k < untouched.size(); k++) {
            check.due(name + ", then " + names.get(k), now.get(k), untouched.get(k));
        }
    }

    static long partOrThrown(RewriteChecks x, int term, int i) {
        try {
            return x.part(term, i);
        } catch (ArrayIndexOutOfBoundsException e) {
            return e.getClass() == ArrayIndexOutOfBoundsException.class ? THROWN : THROWN + 1;
        }
    }

    /** All that can be told within the calls that are left; it changes the object at its end. */
    private List<Long> tellings(RewriteChecks x) {
        names.clear();
        List<Long> told = new ArrayList<>();
        for (int what = 0; what <= 4; what++) {
            tell(told, "count(" + what + ")", x.count(what));
        }
        tellSteps(told, x);
        tellPairs(told, x);
        tellTerms(told, x);
        tellRules(told, x);
        tellTables(told, x);
        for (int v = 0; v < 8; v++) {
            tell(told, "variable(" + v + ")", x.variable(v));
        }
        tell(told, "sign(0, 1)", x.sign(0, 1));
        return told;
    }

    private void tell(List<Long> told, String name, long answer) {
        names.add(name);
        told.add(answer);
    }

    private void tellSteps(List<Long> told, RewriteChecks x) {
        long many = x.used(RewriteChecks.NONE, 0);
        tell(told, "used(NONE, 0)", many);
        for (int k = 0; k < many && k < MOST_TOLD; k++) {
            tell(told, "used(" + k + ", 0)", x.used(k, 0));
            tell(told, "used(" + k + ", 1)", x.used(k, 1));
        }
    }

    private void tellPairs(List<Long> told, RewriteChecks x) {
        for (int k = 0; k < x.count(3) && k < MOST_TOLD; k++) {
            for (int what = 0; what < 5; what++) {
                tell(told, "pair(" + k + ", " + what + ")", x.pair(k, what));
            }
        }
    }

    private void tellTerms(List<Long> told, RewriteChecks x) {
        int many = x.count(1);
        int leap = many / 20 + 1;
        for (int t = many - 1; t >= 0; t -= leap) {
            tell(told, "of(" + t + ", 0, 0)", x.of(t, 0, 0));
            tell(told, "of(" + t + ", 3, 0)", x.of(t, 3, 0));
            tell(told, "part(" + t + ", 0)", partOrThrown(x, t, 0));
        }
    }

    private void tellRules(List<Long> told, RewriteChecks x) {
        for (int v = 0; v < 4; v++) {
            tell(told, "refuted(" + v + ")", x.refuted(v));
        }
        for (int r = 0; r < x.count(2); r++) {
            tell(told, "ends(" + r + ")", x.ends(r));
            tell(told, "on(" + r + ", false)", x.on(r, false));
        }
    }

    private void tellTables(List<Long> told, RewriteChecks x) {
        int n = x.count(4);
        for (int v = 0; v < 8 && n > 0; v++) {
            tell(told, "has(" + v + ", 0)", x.has(v, 0));
        }
        for (int s = 0; s < x.count(0) && s < 4 && n > 0; s++) {
            for (int at = 0; at < (n + 1) * (n + 1); at++) {
                int a = at / (n + 1);
                int b = at % (n + 1);
                tell(told, "cell(" + s + ", " + a + ", " + b + ", 0)", x.cell(s, a, b, 0));
            }
        }
    }
}
