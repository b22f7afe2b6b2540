/** rewrite: at the first place that fits, as long as the term there becomes less, at most 60 times. */
public final class Promise10RewriteTest {
    public static void main(String[] args) {
        ordinary();
        firstPlaceFirst();
        onlyToLess();
        variablesOfTheRightAreInTheLeft();
        variablesAreOthers();
        predicates();
        atMostSixtyTimes();
        atMostSixtyPlaces();
        neverToIsT();
        aRightSideThatWouldNotFit();
        sameSlots();
        wrongSlots();
        Check.end();
    }

    private static void ordinary() {
        due("b", "b", "a", 1, "a");
        due("a", "b", "a", 0, "a");
        due("g(b, b)", "b", "a", 2, "g(a, a)");
        due("f(f(f(a)))", "f(x)", "x", 3, "a");
        due("g(f(a), f(b))", "g(f(x), y)", "f(g(x, y))", 1, "f(g(a, f(b)))");
        due("g(f(f(a)), b)", "g(f(x), y)", "f(g(x, y))", 2, "f(f(g(a, b)))");
        due("g(f(a), f(a))", "g(x, x)", "x", 1, "f(a)");
        due("g(f(a), f(b))", "g(x, x)", "x", 0, "g(f(a), f(b))");
        due("k(f(x), a, a, a, a)", "k(x, y, y, y, y)", "g(y, x)", 1, "g(a, f(x))");
    }

    private static void firstPlaceFirst() {
        // At place 0 the second term is thrown away before it is looked at.
        due("g(a, g(b, b))", "g(x, y)", "x", 1, "a");
        due("g(a, g(b, b))", "g(x, y)", "y", 2, "b");
        due("f(g(g(a, b), a))", "g(g(x, y), z)", "x", 1, "f(a)");
        due("g(g(a, b), g(b, a))", "g(x, y)", "f(x)", 2, "f(f(a))");
        // Behind a rewriting the search begins at the front again.
        due("f(f(b))", "f(b)", "b", 2, "b");
        due("f(g(a, f(b)))", "f(g(x, a))", "x", 0, "f(g(a, f(b)))");
    }

    private static void onlyToLess() {
        due("g(b, a)", "g(x, y)", "g(y, x)", 1, "g(a, b)");
        due("g(a, b)", "g(x, y)", "g(y, x)", 0, "g(a, b)");
        due("g(a, a)", "g(x, y)", "g(y, x)", 0, "g(a, a)");
        due("g(x, y)", "g(x, y)", "g(y, x)", 0, "g(x, y)");
        due("g(x, a)", "g(x, y)", "g(y, x)", 0, "g(x, a)");
        due("g(f(x), x)", "g(x, y)", "g(y, x)", 1, "g(x, f(x))");
        due("g(f(x), y)", "g(x, y)", "g(y, x)", 0, "g(f(x), y)");
        due("g(f(f(a)), a)", "g(x, y)", "g(y, x)", 1, "g(a, f(f(a)))");
        // The first place that fits becomes no less, a later one does.
        due("g(a, g(b, a))", "g(x, y)", "g(y, x)", 1, "g(a, g(a, b))");
        due("f(a)", "f(x)", "f(x)", 0, "f(a)");
        due("f(a)", "x", "x", 0, "f(a)");
        due("f(f(b))", "x", "a", 1, "a");
        due("a", "a", "f(a)", 0, "a");
        due("a", "a", "b", 0, "a");
        // l itself is not greater than r, but with its values it is.
        due("g(f(f(f(a))), b)", "g(x, y)", "g(y, f(y))", 1, "g(b, f(b))");
        due("g(f(a), b)", "g(x, y)", "g(y, f(y))", 1, "g(b, f(b))");
        due("g(a, b)", "g(x, y)", "g(y, f(y))", 0, "g(a, b)");
    }

    private static void variablesOfTheRightAreInTheLeft() {
        due("f(f(a))", "f(x)", "y", 0, "f(f(a))");
        due("g(f(f(a)), a)", "g(x, y)", "g(x, z)", 0, "g(f(f(a)), a)");
        due("f(f(y))", "f(x)", "y", 0, "f(f(y))");
        due("f(f(a))", "f(y)", "y", 2, "a");
        due("f(f(a))", "f(w)", "w", 2, "a");
        for (String v : new String[] {"x", "y", "z", "u", "v", "w"}) {
            due("f(f(a))", "f(" + v + ")", v, 2, "a");
            due("f(f(a))", "f(f(a))", v, 0, "f(f(a))");
            due("k(b, b, b, b, b)", "k(b, b, b, b, b)", "g(a, " + v + ")", 0, "k(b, b, b, b, b)");
            due("k(b, b, b, b, b)", "k(b, b, b, b, " + v + ")", "g(a, " + v + ")", 1, "g(a, b)");
        }
        // As many variables, but others.
        due("k(a, a, a, a, a)", "k(x, y, z, u, v)", "g(x, w)", 0, "k(a, a, a, a, a)");
        due("k(a, a, a, a, a)", "k(w, y, z, u, v)", "g(w, v)", 1, "g(a, a)");
        due("g(k(a, a, a, a, a), b)", "g(k(x, y, z, u, v), w)", "k(v, w, x, y, z)", 1, "k(a, b, a, a, a)");
    }

    private static void variablesAreOthers() {
        due("f(x)", "f(x)", "x", 1, "x");
        due("g(f(z), z)", "g(x, y)", "y", 1, "z");
        due("g(f(y), z)", "g(x, y)", "x", 1, "f(y)");
        due("f(x)", "f(a)", "a", 0, "f(x)");
        due("g(x, y)", "g(x, x)", "x", 0, "g(x, y)");
        due("g(w, w)", "g(x, x)", "x", 1, "w");
        due("x", "x", "a", 0, "x");
    }

    private static void predicates() {
        due("f(p(a))", "f(x)", "x", 0, "f(p(a))");
        due("f(p(a))", "p(x)", "x", 1, "f(a)");
        due("p(b)", "x", "a", 1, "p(a)");
        due("p(a)", "p(x)", "f(x)", 1, "f(a)");
        due("f(a)", "f(a)", "p(a)", 0, "f(a)");
        due("p(f(f(a)))", "f(f(x))", "f(x)", 1, "p(f(a))");
        due("f(g(b, b))", "g(b, b)", "p(a)", 1, "f(p(a))");
    }

    private static void atMostSixtyTimes() {
        due("f^99(a)", "f(x)", "x", 60, "f^39(a)");
        due("f^61(a)", "f(x)", "x", 60, "f(a)");
        due("f^60(a)", "f(x)", "x", 60, "a");
        due("f^59(a)", "f(x)", "x", 59, "a");
    }

    /** As atMostSixtyTimes, but each time at another place: the first sixty. */
    private static void atMostSixtyPlaces() {
        dueConstants(57, 57, 57);
        dueConstants(61, 60, 61);
        dueConstants(65, 60, 65);
    }

    /** Behind k's alone so many b's: each of them may become a. */
    private static void dueConstants(int constants, int first, int inAll) {
        TermBench bench = Terms.bench();
        Check.keep(bench, 0, row(constants, 0));
        Terms.keep(bench, 1, "b");
        Terms.keep(bench, 2, "a");
        Check.due("rewrite of " + constants, bench.rewrite(0, 0, 1, 2), first);
        Check.dueTerm("rewrite of " + constants, bench, 0, row(constants, first));
        Check.due("rewrite again", bench.rewrite(0, 0, 1, 2), inAll - first);
        Check.dueTerm("rewrite again", bench, 0, row(constants, inAll));
        Check.due("in all", bench.count(3), inAll);
    }

    private static int[] row(int constants, int ofThemA) {
        int symbols = (constants - 1) / 4;
        int[] codes = new int[symbols + constants];
        for (int i = 0; i < codes.length; i++) {
            codes[i] = i < symbols ? 5 : i < symbols + ofThemA ? 0 : 1;
        }
        return codes;
    }

    /** "(Never: to is t.)" Also where to was l or r, or is t itself. */
    private static void neverToIsT() {
        for (int to = 0; to < 4; to++) {
            TermBench bench = Terms.bench();
            Terms.keep(bench, 0, "g(a, x)");
            Terms.keep(bench, 1, "f(y)");
            Terms.keep(bench, 2, "y");
            Terms.keep(bench, 3, "f^99(a)");
            Check.due("rewrite", bench.rewrite(to, 0, 1, 2), 0);
            Terms.due("never", bench, to, "g(a, x)");
            Terms.due("t", bench, 0, "g(a, x)");
            Check.due("in all", bench.count(3), 0);
        }
    }

    private static void aRightSideThatWouldNotFit() {
        due("f^99(a)", "f(x)", "k(k(x, x, x, x, x), x, x, x, x)", 0, "f^99(a)");
        due("f^99(a)", "x", "k(k(x, x, x, x, x), x, x, x, x)", 0, "f^99(a)");
        // 101 codes are more than 100, though h is greater than g and all that has room is less.
        due("h(f^49(a), f^48(a))", "h(x, y)", "g(x, x)", 0, "h(f^49(a), f^48(a))");
        due("h(f^48(a), f^49(a))", "h(x, y)", "g(x, x)", 1, "g(f^48(a), f^48(a))");
        due("h(f^49(a), f^48(a))", "h(x, y)", "g(y, y)", 1, "g(f^48(a), f^48(a))");
        due("h(f^49(a), f^48(x))", "h(x, y)", "g(x, y)", 1, "g(f^49(a), f^48(x))");
        due("h(f^49(a), f^48(x))", "h(x, y)", "g(x, f(y))", 0, "h(f^49(a), f^48(x))");
        // With the heavy value at place 0 it does not fit; with the light one further in it is less.
        due("g(g(f^13(a), b), f^40(a))", "g(x, y)", "k(y, y, y, y, y)", 1, "g(k(b, b, b, b, b), f^40(a))");
    }

    private static void sameSlots() {
        TermBench bench = Terms.bench();
        Terms.keep(bench, 0, "f(f(a))");
        Terms.keep(bench, 1, "f(x)");
        Check.due("to is r", bench.rewrite(2, 0, 1, 2), 2);
        Terms.due("to is r", bench, 2, "a");
        Check.due("to is t", bench.rewrite(0, 0, 1, 3), 2);
        Terms.due("to is t", bench, 0, "a");
        Terms.keep(bench, 0, "f(f(b))");
        Check.due("to is l", bench.rewrite(1, 0, 1, 3), 2);
        Terms.due("to is l", bench, 1, "b");
        Check.due("all are one", bench.rewrite(0, 0, 0, 0), 0);
        Terms.due("all are one", bench, 0, "f(f(b))");
    }

    private static void wrongSlots() {
        TermBench bench = Terms.bench();
        for (int slot : new int[] {-1, 16, Integer.MIN_VALUE, Integer.MAX_VALUE}) {
            Check.dueThrow("rewrite", Check.NO_SUCH, () -> bench.rewrite(slot, 0, 0, 0));
            Check.dueThrow("rewrite", Check.NO_SUCH, () -> bench.rewrite(0, slot, 0, 0));
            Check.dueThrow("rewrite", Check.NO_SUCH, () -> bench.rewrite(0, 0, slot, 0));
            Check.dueThrow("rewrite", Check.NO_SUCH, () -> bench.rewrite(0, 0, 0, slot));
        }
    }

    private static void due(String t, String l, String r, int times, String becomes) {
        TermBench bench = Terms.bench();
        Terms.keep(bench, 0, t);
        Terms.keep(bench, 1, l);
        Terms.keep(bench, 2, r);
        Terms.keep(bench, 3, "k(a, a, a, a, a)");
        String what = "rewrite of " + t + " by " + l + ", " + r;
        Check.due(what, bench.rewrite(3, 0, 1, 2), times);
        Terms.due(what, bench, 3, becomes);
        Check.due("count(3) of " + what, bench.count(3), times);
        Terms.due("t stays", bench, 0, t);
    }
}
