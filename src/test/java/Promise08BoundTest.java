/** bound: the values of the latest match that was true. */
public final class Promise08BoundTest {
    public static void main(String[] args) {
        valuesOfAMatch();
        variablesThatHaveNone();
        valuesStayWhenSlotsChange();
        onlyATrueMatchCounts();
        aMatchWithoutVariables();
        heaviestValue();
        Check.end();
    }

    private static TermBench matched() {
        TermBench bench = Terms.bench();
        Terms.keep(bench, 0, "g(x, f(z))");
        Terms.keep(bench, 1, "g(g(z, y), f(b))");
        Check.due("match", bench.match(0, 1), true);
        return bench;
    }

    private static void dueBound(TermBench bench, int to, int variable, String want) {
        Check.due("bound(" + to + ", " + variable + ")", bench.bound(to, variable), Terms.codes(want).length);
        Terms.due("bound(" + to + ", " + variable + ")", bench, to, want);
    }

    private static void dueUnbound(TermBench bench, int to, int variable) {
        Check.dueThrow("bound(" + to + ", " + variable + ")", Check.NO_SUCH, () -> bench.bound(to, variable));
    }

    private static void valuesOfAMatch() {
        TermBench bench = matched();
        dueBound(bench, 7, 0, "g(z, y)");
        dueBound(bench, 15, 2, "b");
        Check.due("its depth", bench.told(7, 2), 2);
        dueBound(bench, 0, 0, "g(z, y)");
        dueBound(bench, 1, 0, "g(z, y)");
        dueBound(bench, 1, 2, "b");
    }

    private static void variablesThatHaveNone() {
        TermBench bench = matched();
        Terms.keep(bench, 7, "a");
        for (int variable : new int[] {1, 3, 4, 5, 6, -1, Integer.MIN_VALUE, Integer.MAX_VALUE}) {
            dueUnbound(bench, 7, variable);
        }
        for (int slot : new int[] {-1, 16, Integer.MIN_VALUE, Integer.MAX_VALUE}) {
            dueUnbound(bench, slot, 0);
        }
        Terms.due("stays", bench, 7, "a");
        TermBench unmatched = new TermBench();
        for (int variable = 0; variable < 6; variable++) {
            dueUnbound(unmatched, 0, variable);
        }
    }

    private static void valuesStayWhenSlotsChange() {
        TermBench bench = matched();
        Terms.keep(bench, 1, "a");
        Terms.keep(bench, 0, "y");
        dueBound(bench, 1, 0, "g(z, y)");
        dueBound(bench, 1, 2, "b");
    }

    private static void onlyATrueMatchCounts() {
        TermBench bench = matched();
        Terms.keep(bench, 2, "g(x, a)");
        Terms.keep(bench, 3, "g(f(a), b)");
        Check.due("a false match", bench.match(2, 3), false);
        Check.dueThrow("a match without its slot", Check.NO_SUCH, () -> bench.match(2, 16) ? 1 : 0);
        Terms.keep(bench, 4, "f(y)");
        Terms.keep(bench, 5, "f(f(a))");
        Check.due("unify", bench.unify(6, 4, 5, true), 1);
        Terms.keep(bench, 6, "y");
        Check.due("rewrite", bench.rewrite(8, 5, 4, 6), 2);
        dueBound(bench, 7, 0, "g(z, y)");
        dueBound(bench, 7, 2, "b");
        dueUnbound(bench, 7, 1);
        Check.due("a later match", bench.match(4, 5), true);
        dueBound(bench, 7, 1, "f(a)");
        dueUnbound(bench, 7, 0);
        dueUnbound(bench, 7, 2);
    }

    private static void aMatchWithoutVariables() {
        TermBench bench = matched();
        Terms.keep(bench, 2, "a");
        Check.due("match", bench.match(2, 2), true);
        dueUnbound(bench, 7, 0);
        dueUnbound(bench, 7, 2);
    }

    private static void heaviestValue() {
        TermBench bench = Terms.bench();
        Terms.keep(bench, 0, "f^99(y)");
        Terms.keep(bench, 1, "w");
        Check.due("match", bench.match(1, 0), true);
        dueBound(bench, 2, 5, "f^99(y)");
        Check.due("match", bench.match(0, 0), true);
        dueBound(bench, 2, 1, "y");
    }
}
