/** rewrite: at the first place that fits, as long as the term there becomes less, at most 60 times. */
public final class Promise10RewriteTest {
    public static void main(String[] args) {
        ordinary();
        firstPlaceFirst();
        onlyToLess();
        variablesOfTheRightAreInTheLeft();
        variablesAreOthers();
        predicates();
        atMostSixtyTimes();
        aRightSideThatWouldNotFit();
        sameSlots();
        wrongSlots();
        Check.end();
    }

    private static void ordinary() {
        due("b", "b", "a", 1, "a");
        due("a", "b", "a", 0, "a");
        due("g(b, b)", "b", "a", 2, "g(a, a)");
        due("f(f(f(a)))", "f(x)", "x", 3, "a");
        due("g(f(a), f(b))", "g(f(x), y)", "f(g(x, y))", 1, "f(g(a, f(b)))");
        due("g(f(f(a)), b)", "g(f(x), y)", "f(g(x, y))", 2, "f(f(g(a, b)))");
        due("g(f(a), f(a))", "g(x, x)", "x", 1, "f(a)");
        due("g(f(a), f(b))", "g(x, x)", "x", 0, "g(f(a), f(b))");
        due("k(f(x), a, a, a, a)", "k(x, y, y, y, y)", "g(y, x)", 1, "g(a, f(x))");
    }

    private static void firstPlaceFirst() {
        // At place 0 the second term is thrown away before it is looked at.
        due("g(a, g(b, b))", "g(x, y)", "x", 1, "a");
        due("g(a, g(b, b))", "g(x, y)", "y", 2, "b");
        due("f(g(g(a, b), a))", "g(g(x, y), z)", "x", 1, "f(a)");
        due("g(g(a, b), g(b, a))", "g(x, y)", "f(x)", 2, "f(f(a))");
        // Behind a rewriting the search begins at the front again.
        due("f(f(b))", "f(b)", "b", 2, "b");
        due("f(g(a, f(b)))", "f(g(x, a))", "x", 0, "f(g(a, f(b)))");
    }

    private static void onlyToLess() {
        due("g(b, a)", "g(x, y)", "g(y, x)", 1, "g(a, b)");
        due("g(a, b)", "g(x, y)", "g(y, x)", 0, "g(a, b)");
        due("g(a, a)", "g(x, y)", "g(y, x)", 0, "g(a, a)");
        due("g(x, y)", "g(x, y)", "g(y, x)", 0, "g(x, y)");
        due("g(x, a)", "g(x, y)", "g(y, x)", 0, "g(x, a)");
        due("g(f(x), x)", "g(x, y)", "g(y, x)", 1, "g(x, f(x))");
        due("g(f(x), y)", "g(x, y)", "g(y, x)", 0, "g(f(x), y)");
        due("g(f(f(a)), a)", "g(x, y)", "g(y, x)", 1, "g(a, f(f(a)))");
        // The first place that fits becomes no less, a later one does.
        due("g(a, g(b, a))", "g(x, y)", "g(y, x)", 1, "g(a, g(a, b))");
        due("f(a)", "f(x)", "f(x)", 0, "f(a)");
        due("f(a)", "x", "x", 0, "f(a)");
        due("f(f(b))", "x", "a", 1, "a");
        due("a", "a", "f(a)", 0, "a");
        due("a", "a", "b", 0, "a");
        // l itself is not greater than r, but with its values it is.
        due("g(f(f(f(a))), b)", "g(x, y)", "g(y, f(y))", 1, "g(b, f(b))");
        due("g(f(a), b)", "g(x, y)", "g(y, f(y))", 1, "g(b, f(b))");
        due("g(a, b)", "g(x, y)", "g(y, f(y))", 0, "g(a, b)");
    }

    private static void variablesOfTheRightAreInTheLeft() {
        due("f(f(a))", "f(x)", "y", 0, "f(f(a))");
        due("g(f(f(a)), a)", "g(x, y)", "g(x, z)", 0, "g(f(f(a)), a)");
        due("f(f(y))", "f(x)", "y", 0, "f(f(y))");
        due("f(f(a))", "f(y)", "y", 2, "a");
        due("f(f(a))", "f(w)", "w", 2, "a");
    }

    private static void variablesAreOthers() {
        due("f(x)", "f(x)", "x", 1, "x");
        due("g(f(z), z)", "g(x, y)", "y", 1, "z");
        due("g(f(y), z)", "g(x, y)", "x", 1, "f(y)");
        due("f(x)", "f(a)", "a", 0, "f(x)");
        due("g(x, y)", "g(x, x)", "x", 0, "g(x, y)");
        due("g(w, w)", "g(x, x)", "x", 1, "w");
        due("x", "x", "a", 0, "x");
    }

    private static void predicates() {
        due("f(p(a))", "f(x)", "x", 0, "f(p(a))");
        due("f(p(a))", "p(x)", "x", 1, "f(a)");
        due("p(b)", "x", "a", 1, "p(a)");
        due("p(a)", "p(x)", "f(x)", 1, "f(a)");
        due("f(a)", "f(a)", "p(a)", 0, "f(a)");
        due("p(f(f(a)))", "f(f(x))", "f(x)", 1, "p(f(a))");
        due("f(g(b, b))", "g(b, b)", "p(a)", 1, "f(p(a))");
    }

    private static void atMostSixtyTimes() {
        due("f^99(a)", "f(x)", "x", 60, "f^39(a)");
        due("f^61(a)", "f(x)", "x", 60, "f(a)");
        due("f^60(a)", "f(x)", "x", 60, "a");
        due("f^59(a)", "f(x)", "x", 59, "a");
    }

    private static void aRightSideThatWouldNotFit() {
        due("f^99(a)", "f(x)", "k(k(x, x, x, x, x), x, x, x, x)", 0, "f^99(a)");
        due("f^99(a)", "x", "k(k(x, x, x, x, x), x, x, x, x)", 0, "f^99(a)");
        // With the heavy value at place 0 it does not fit; with the light one further in it is less.
        due("g(g(f^13(a), b), f^40(a))", "g(x, y)", "k(y, y, y, y, y)", 1, "g(k(b, b, b, b, b), f^40(a))");
    }

    private static void sameSlots() {
        TermBench bench = Terms.bench();
        Terms.keep(bench, 0, "f(f(a))");
        Terms.keep(bench, 1, "f(x)");
        Check.due("to is r", bench.rewrite(2, 0, 1, 2), 2);
        Terms.due("to is r", bench, 2, "a");
        Check.due("to is t", bench.rewrite(0, 0, 1, 3), 2);
        Terms.due("to is t", bench, 0, "a");
        Terms.keep(bench, 0, "f(f(b))");
        Check.due("to is l", bench.rewrite(1, 0, 1, 3), 2);
        Terms.due("to is l", bench, 1, "b");
        Check.due("all are one", bench.rewrite(0, 0, 0, 0), 0);
        Terms.due("all are one", bench, 0, "f(f(b))");
    }

    private static void wrongSlots() {
        TermBench bench = Terms.bench();
        for (int slot : new int[] {-1, 16, Integer.MIN_VALUE, Integer.MAX_VALUE}) {
            Check.dueThrow("rewrite", Check.NO_SUCH, () -> bench.rewrite(slot, 0, 0, 0));
            Check.dueThrow("rewrite", Check.NO_SUCH, () -> bench.rewrite(0, slot, 0, 0));
            Check.dueThrow("rewrite", Check.NO_SUCH, () -> bench.rewrite(0, 0, slot, 0));
            Check.dueThrow("rewrite", Check.NO_SUCH, () -> bench.rewrite(0, 0, 0, slot));
        }
    }

    private static void due(String t, String l, String r, int times, String becomes) {
        TermBench bench = Terms.bench();
        Terms.keep(bench, 0, t);
        Terms.keep(bench, 1, l);
        Terms.keep(bench, 2, r);
        Terms.keep(bench, 3, "k(a, a, a, a, a)");
        String what = "rewrite of " + t + " by " + l + ", " + r;
        Check.due(what, bench.rewrite(3, 0, 1, 2), times);
        Terms.due(what, bench, 3, becomes);
        Check.due("count(3) of " + what, bench.count(3), times);
        Terms.due("t stays", bench, 0, t);
    }
}
