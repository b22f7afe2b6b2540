/** match: whether the first term with values is the second, whose variables are others. */
public final class Promise07MatchTest {
    public static void main(String[] args) {
        ordinary();
        variablesOfTheSecond();
        predicates();
        heavyTerms();
        noneToSixVariables();
        wrongSlots();
        Check.end();
    }

    private static void ordinary() {
        due(true, "a", "a");
        due(false, "a", "b");
        due(true, "x", "a");
        due(true, "x", "g(f(a), b)");
        due(false, "f(x)", "a");
        due(true, "g(x, y)", "g(f(a), b)");
        due(true, "g(x, x)", "g(f(a), f(a))");
        due(false, "g(x, x)", "g(f(a), f(b))");
        due(false, "g(x, x)", "g(f(a), a)");
        due(false, "g(x, x)", "g(a, f(a))");
        due(true, "g(g(x, y), f(x))", "g(g(f(b), a), f(f(b)))");
        due(false, "g(g(x, y), f(x))", "g(g(f(b), a), f(f(a)))");
        due(true, "g(w, v)", "g(a, b)");
    }

    private static void variablesOfTheSecond() {
        due(true, "x", "y");
        due(true, "x", "f(x)");
        due(false, "f(x)", "x");
        due(false, "a", "x");
        due(false, "f(a)", "f(x)");
        due(true, "g(x, y)", "g(y, x)");
        due(true, "g(x, y)", "g(z, z)");
        due(false, "g(x, x)", "g(x, y)");
        due(true, "g(x, x)", "g(y, y)");
        due(true, "g(x, f(y))", "g(f(y), f(x))");
    }

    private static void predicates() {
        due(false, "x", "p(a)");
        due(true, "p(x)", "p(a)");
        due(false, "p(x)", "p(p(a))");
        due(true, "p(p(x))", "p(p(a))");
        due(true, "x", "f(p(a))");
        due(false, "g(x, y)", "g(a, p(a))");
        due(true, "g(x, p(a))", "g(a, p(a))");
        due(false, "g(x, x)", "g(p(a), p(a))");
    }

    private static void heavyTerms() {
        due(true, "f^99(x)", "f^99(a)");
        due(true, "x", "f^99(a)");
        due(false, "f^99(a)", "f^99(b)");
        due(false, "f^99(x)", "f^98(a)");
        due(false, "f^98(x)", "f^97(a)");
        due(true, "f^98(x)", "f^99(a)");
        due(true, "g(x, x)", "g(f^48(a), f^48(a))");
        due(false, "g(x, x)", "g(f^48(a), f^48(b))");
        due(false, "g(x, x)", "g(f^48(a), f^49(a))");
    }

    /** "VALUES for its VARIABLES": none, one and all six. */
    private static void noneToSixVariables() {
        due(true, "f(a)", "f(a)");
        due(true, "f(w)", "f(a)");
        due(true, "g(k(x, y, z, u, v), w)", "g(k(w, v, u, z, y), x)");
        due(true, "g(k(x, y, z, u, v), w)", "g(k(a, a, a, a, a), a)");
        due(false, "g(k(a, a, a, a, a), w)", "g(k(a, a, a, a, x), a)");
        due(true, "k(w, w, w, w, w)", "k(b, b, b, b, b)");
        due(false, "k(w, w, w, w, w)", "k(b, b, b, b, a)");
        due(false, "k(w, w, w, w, w)", "k(a, b, b, b, b)");
    }

    private static void wrongSlots() {
        TermBench bench = new TermBench();
        for (int slot : new int[] {-1, 16, Integer.MIN_VALUE, Integer.MAX_VALUE}) {
            Check.dueThrow("match", Check.NO_SUCH, () -> bench.match(slot, 0) ? 1 : 0);
            Check.dueThrow("match", Check.NO_SUCH, () -> bench.match(0, slot) ? 1 : 0);
        }
        Check.due("match of the last slots", bench.match(15, 15), true);
    }

    private static void due(boolean want, String a, String b) {
        TermBench bench = Terms.bench();
        Terms.keep(bench, 0, a);
        Terms.keep(bench, 1, b);
        Check.due("match of " + a + " to " + b, bench.match(0, 1), want);
        Terms.due("match leaves it", bench, 0, a);
        Terms.due("match leaves it", bench, 1, b);
    }
}
