/** told: weight, variables and depth of a slot's term. */
public final class Promise12ToldTest {
    public static void main(String[] args) {
        due("x", 1, 1, 1);
        due("w", 1, 1, 1);
        due("a", 1, 0, 1);
        due("f(a)", 2, 0, 2);
        due("p(a)", 2, 0, 2);
        due("g(z, z)", 3, 1, 2);
        due("g(z, u)", 3, 2, 2);
        due("k(x, y, z, u, v)", 6, 5, 2);
        due("k(x, y, z, u, g(v, f(w)))", 9, 6, 4);
        due("g(a, g(x, a))", 5, 1, 3);
        due("g(g(x, a), a)", 5, 1, 3);
        due("g(f(f(a)), f(a))", 6, 0, 4);
        due("g(f(a), f(f(a)))", 6, 0, 4);
        due("f^99(y)", 100, 1, 100);
        due("f^99(a)", 100, 0, 100);
        due("f^98(w)", 99, 1, 99);
        for (String variable : new String[] {"x", "y", "z", "u", "v", "w"}) {
            due(variable, 1, 1, 1);
            due("k(a, " + variable + ", a, " + variable + ", b)", 6, 1, 2);
        }
        due("g(k(w, v, u, z, y), x)", 8, 6, 3);
        due("g(k(w, w, u, z, y), x)", 8, 5, 3);
        due("k(f^10(a), a, f^20(x), a, f^19(y))", 55, 2, 22);
        wrongCalls();
        Check.end();
    }

    private static void wrongCalls() {
        TermBench bench = new TermBench();
        for (int what : new int[] {-1, 3, 4, Integer.MIN_VALUE, Integer.MAX_VALUE}) {
            Check.dueThrow("told(0, " + what + ")", Check.ARGUMENT, () -> bench.told(0, what));
            Check.dueThrow("told(16, " + what + ")", Check.NO_SUCH, () -> bench.told(16, what));
        }
        for (int slot : new int[] {-1, 16, Integer.MIN_VALUE, Integer.MAX_VALUE}) {
            Check.dueThrow("told(" + slot + ", 0)", Check.NO_SUCH, () -> bench.told(slot, 0));
        }
    }

    private static void due(String term, int weight, int variables, int depth) {
        TermBench bench = Terms.bench();
        Terms.keep(bench, 15, term);
        Check.due("weight of " + term, bench.told(15, 0), weight);
        Check.due("variables of " + term, bench.told(15, 1), variables);
        Check.due("depth of " + term, bench.told(15, 2), depth);
    }
}
