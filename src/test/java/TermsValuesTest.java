/** Section 'Terms': "VALUES: TERMS for VARIABLES, all at once; none of them begins with a PREDICATE." */
public final class TermsValuesTest {
    public static void main(String[] args) {
        allAtOnce();
        noneBeginsWithAPredicateInUnify();
        noneBeginsWithAPredicateInMatch();
        noneBeginsWithAPredicateInRewrite();
        aPredicateWithoutTermsIsOneToo();
        aRefusedValueLeavesTheMatchBefore();
        predicatesMayStandAnywhereElse();
        Check.end();
    }

    /** Were one put in behind the other, the variables of the first value would get values, too. */
    private static void allAtOnce() {
        dueRewrite("h(y, f(x))", "h(x, y)", "g(y, x)", 1, "g(f(x), y)");
        dueRewrite("h(f(y), f(x))", "h(x, y)", "g(y, x)", 1, "g(f(x), f(y))");
        dueRewrite("k(y, z, u, v, w)", "k(x, y, z, u, v)", "g(g(x, y), u)", 1, "g(g(y, z), v)");
        dueRewrite("k(b, x, y, z, u)", "k(x, y, z, u, v)", "g(g(y, z), x)", 1, "g(g(x, y), b)");
        TermBench bench = bench("g(x, y)", "g(f(y), f(x))");
        Check.due("match", bench.match(0, 1), true);
        Check.due("bound", bench.bound(2, 0), 2);
        Terms.due("the value of x", bench, 2, "f(y)");
        Check.due("bound", bench.bound(2, 1), 2);
        Terms.due("the value of y", bench, 2, "f(x)");
        dueUnify("g(x, y)", "g(f(y), f(a))", false, 1, "g(f(f(a)), f(a))");
    }

    private static void noneBeginsWithAPredicateInUnify() {
        for (boolean apart : new boolean[] {false, true}) {
            dueUnify("x", "p(a)", apart, 0, "x");
            dueUnify("x", "f(p(a))", apart, 1, "f(p(a))");
            dueUnify("g(x, a)", "g(p(b), y)", apart, 0, "x");
            dueUnify("g(x, a)", "g(f(p(b)), y)", apart, 1, "g(f(p(b)), a)");
            dueUnify("p(x)", "p(p(y))", apart, 0, "x");
            dueUnify("p(x)", "p(f(p(b)))", apart, 1, "p(f(p(b)))");
        }
        // The variable gets its value by way of other variables.
        dueUnify("k(x, y, z, u, u)", "k(y, z, u, v, p(a))", false, 0, "x");
        dueUnify("k(x, y, z, u, u)", "k(y, z, u, v, f(p(a)))", false, 1,
                "k(f(p(a)), f(p(a)), f(p(a)), f(p(a)), f(p(a)))");
        // It gets it from terms inside joined values.
        dueUnify("g(x, x)", "g(f(y), f(p(a)))", true, 0, "x");
        dueUnify("g(x, x)", "g(f(p(y)), f(p(a)))", true, 1, "g(f(p(a)), f(p(a)))");
    }

    private static void noneBeginsWithAPredicateInMatch() {
        dueMatch("x", "p(a)", false);
        dueMatch("x", "f(p(a))", true);
        dueMatch("w", "p(w)", false);
        dueMatch("g(a, w)", "g(a, p(a))", false);
        dueMatch("g(a, w)", "g(a, f(p(a)))", true);
        dueMatch("g(a, p(w))", "g(a, p(a))", true);
        dueMatch("g(p(a), w)", "g(p(a), b)", true);
        dueMatch("k(x, x, x, x, x)", "k(p(a), p(a), p(a), p(a), p(a))", false);
        dueMatch("k(x, y, z, u, v)", "k(a, a, a, a, p(a))", false);
        dueMatch("k(x, y, z, u, v)", "k(p(a), a, a, a, a)", false);
    }

    private static void noneBeginsWithAPredicateInRewrite() {
        dueRewrite("f(p(a))", "f(x)", "a", 0, "f(p(a))");
        dueRewrite("f(f(p(a)))", "f(x)", "a", 1, "a");
        dueRewrite("f(p(f(b)))", "f(x)", "x", 1, "f(p(b))");
        dueRewrite("p(p(p(b)))", "x", "a", 1, "p(p(p(a)))");
        dueRewrite("g(p(b), b)", "g(x, y)", "y", 0, "g(p(b), b)");
        dueRewrite("g(b, p(b))", "g(x, y)", "x", 0, "g(b, p(b))");
        dueRewrite("g(b, p(b))", "g(x, p(y))", "x", 1, "b");
    }

    private static void aPredicateWithoutTermsIsOneToo() {
        TermBench bench = new TermBench();
        int q = bench.symbol(0, true);
        int f = bench.symbol(1, false);
        int c = bench.symbol(0, false);
        Check.keep(bench, 1, q);
        Check.keep(bench, 2, f, q);
        Check.keep(bench, 3, f, -1);
        Check.keep(bench, 4, c);
        Check.due("match", bench.match(0, 1), false);
        Check.due("match", bench.match(3, 2), false);
        Check.due("match", bench.match(1, 1), true);
        Check.due("match", bench.match(0, 4), true);
        Check.due("unify", bench.unify(5, 0, 1, true), 0);
        Check.due("unify", bench.unify(5, 2, 3, true), 0);
        Check.due("unify", bench.unify(5, 1, 1, true), 1);
        Check.dueTerm("unify", bench, 5, q);
        Check.due("unify", bench.unify(5, 0, 2, true), 1);
        Check.dueTerm("unify", bench, 5, f, q);
        Check.due("rewrite", bench.rewrite(6, 2, 3, 0), 0);
        Check.due("rewrite", bench.rewrite(6, 2, 2, 1), 1);
        Check.dueTerm("rewrite", bench, 6, q);
        Check.due("rewrite", bench.rewrite(6, 4, 4, 1), 1);
        Check.dueTerm("rewrite", bench, 6, q);
    }

    private static void aRefusedValueLeavesTheMatchBefore() {
        TermBench bench = bench("g(x, y)", "g(a, b)");
        Check.due("match", bench.match(0, 1), true);
        Terms.keep(bench, 2, "g(f(a), p(a))");
        Check.due("match", bench.match(0, 2), false);
        Check.due("bound", bench.bound(3, 0), 1);
        Terms.due("the value of x", bench, 3, "a");
        Check.due("bound", bench.bound(3, 1), 1);
        Terms.due("the value of y", bench, 3, "b");
    }

    /** "(Elsewhere PREDICATES may stand anywhere in a TERM.)" */
    private static void predicatesMayStandAnywhereElse() {
        TermBench bench = bench("p(p(x))", "k(p(a), f(p(p(b))), p(x), g(p(y), p(y)), p(z))");
        Terms.due("put", bench, 1, "k(p(a), f(p(p(b))), p(x), g(p(y), p(y)), p(z))");
        Check.due("replace", bench.replace(2, 1, 1, 0), 17);
        Terms.due("replace", bench, 2, "k(p(p(x)), f(p(p(b))), p(x), g(p(y), p(y)), p(z))");
        Check.due("replace", bench.replace(2, 1, 0, 0), 3);
        Terms.due("replace", bench, 2, "p(p(x))");
        Check.due("unify", bench.unify(3, 1, 1, true), 1);
        Terms.due("unify", bench, 3, "k(p(a), f(p(p(b))), p(x), g(p(y), p(y)), p(z))");
        Check.due("match", bench.match(1, 3), true);
        Check.due("order", bench.order(1, 3), 3);
        Check.due("depth", bench.told(1, 2), 5);
        dueRewrite("f(g(a, b))", "g(x, y)", "p(x)", 1, "f(p(a))");
        dueRewrite("g(b, b)", "g(x, y)", "p(x)", 1, "p(b)");
        dueRewrite("f(p(p(b)))", "p(p(x))", "p(x)", 1, "f(p(b))");
    }

    private static TermBench bench(String... terms) {
        TermBench bench = Terms.bench();
        for (int slot = 0; slot < terms.length; slot++) {
            Terms.keep(bench, slot, terms[slot]);
        }
        return bench;
    }

    private static void dueUnify(String a, String b, boolean apart, int answer, String then) {
        TermBench bench = bench(a, b);
        Check.due("unify of " + a + " and " + b, bench.unify(2, 0, 1, apart), answer);
        Terms.due("unify of " + a + " and " + b, bench, 2, then);
        Check.due("unify of " + b + " and " + a, bench.unify(3, 1, 0, apart), answer);
        Terms.due("unify of " + b + " and " + a, bench, 3, then);
    }

    private static void dueMatch(String a, String b, boolean answer) {
        Check.due("match of " + a + " to " + b, bench(a, b).match(0, 1), answer);
    }

    private static void dueRewrite(String t, String l, String r, int times, String then) {
        TermBench bench = bench(t, l, r);
        Check.due("rewrite of " + t + " by " + l + ", " + r, bench.rewrite(3, 0, 1, 2), times);
        Terms.due("rewrite of " + t + " by " + l + ", " + r, bench, 3, then);
    }
}
