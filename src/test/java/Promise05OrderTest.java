import java.util.Arrays;

/** order: by the variables' number, then weight, then the first symbol, then the first terms that differ. */
public final class Promise05OrderTest {
    private static final int A = 0;
    private static final int B = 1;
    private static final int F = 2;
    private static final int G = 3;
    private static final int H = 4;
    private static final int X = -1;
    private static final int Y = -2;

    public static void main(String[] args) {
        dueOrder(3, terms(X), terms(X));
        dueOrder(0, terms(X), terms(Y));
        dueOrder(3, terms(G, X, F, A), terms(G, X, F, A));
        weight();
        variables();
        firstSymbol();
        termsThatDiffer();
        wrongSlots();
        predicatesAreSymbolsLikeOthers();
        Check.end();
    }

    private static void weight() {
        dueOrder(1, terms(F, A), terms(B));
        dueOrder(1, terms(F, A), terms(A));
        dueOrder(1, terms(F, X), terms(X));
        dueOrder(1, terms(F, X), terms(A));
        // The heavier one is greater though its first symbol is less.
        dueOrder(1, terms(F, F, F, A), terms(H, B, B));
        dueOrder(0, terms(A), terms(X));
        dueOrder(0, terms(B), terms(Y));
    }

    private static void variables() {
        dueOrder(0, terms(F, X), terms(Y));
        dueOrder(0, terms(F, F, F, F, X), terms(G, X, X));
        dueOrder(1, terms(F, G, X, X), terms(G, X, X));
        dueOrder(1, terms(G, X, F, Y), terms(G, Y, X));
        dueOrder(0, terms(G, X, F, X), terms(G, Y, X));
        dueOrder(1, terms(G, X, X), terms(F, X));
        dueOrder(1, terms(G, -6, F, -6), terms(F, -6));
    }

    private static void firstSymbol() {
        dueOrder(1, terms(B), terms(A));
        dueOrder(1, terms(H, A, A), terms(G, B, B));
        dueOrder(1, terms(H, X, Y), terms(G, Y, X));
        dueOrder(0, terms(H, X, A), terms(G, Y, A));
        dueOrder(1, terms(H, X, A), terms(G, A, A));
        dueOrder(0, terms(H, A, A), terms(G, A, X));
    }

    private static void termsThatDiffer() {
        dueOrder(1, terms(G, B, A), terms(G, A, B));
        dueOrder(1, terms(G, A, B), terms(G, A, A));
        dueOrder(1, terms(G, F, X, Y), terms(G, X, F, Y));
        dueOrder(0, terms(G, X, Y), terms(G, Y, X));
        dueOrder(0, terms(G, A, X), terms(G, X, A));
        // The first that differ decide, not a later and greater one.
        dueOrder(1, terms(G, F, A, A), terms(G, A, F, B));
        dueOrder(1, terms(F, F, B), terms(F, F, A));
        dueOrder(1, terms(F, G, X, F, B), terms(F, G, X, F, A));
        // The whole has each variable as often, but the first terms that differ have not.
        dueOrder(0, terms(G, F, X, Y), terms(G, Y, F, X));
        dueOrder(0, terms(G, H, X, A, Y), terms(G, G, Y, A, X));
        dueOrder(1, terms(G, H, X, Y, X), terms(G, G, Y, X, X));
        // Deep inside: the terms round the difference have the same weight and symbol.
        dueOrder(1, terms(G, X, G, F, A, A), terms(G, X, G, B, F, A));
        dueOrder(1, terms(G, X, G, F, A, A), terms(G, X, G, B, A));
        // The inner difference makes it 0 although the variables of the whole are even.
        dueOrder(0, terms(G, G, X, Y, G, Y, X), terms(G, G, Y, X, G, X, Y));
        dueOrder(1, Check.chain(99, F, B), Check.chain(99, F, A));
        dueOrder(1, Check.chain(99, F, X), Check.chain(98, F, X));
    }

    private static void wrongSlots() {
        TermBench bench = new TermBench();
        for (int slot : new int[] {-1, 16, Integer.MIN_VALUE, Integer.MAX_VALUE}) {
            Check.dueThrow("order", Check.NO_SUCH, () -> bench.order(slot, 0));
            Check.dueThrow("order", Check.NO_SUCH, () -> bench.order(0, slot));
        }
        Check.due("order of the last slots", bench.order(15, 15), 3);
    }

    private static void predicatesAreSymbolsLikeOthers() {
        TermBench bench = new TermBench();
        bench.symbol(0, false);
        bench.symbol(1, true);
        bench.symbol(1, false);
        Check.keep(bench, 0, 0);
        Check.keep(bench, 1, 1, 0);
        Check.keep(bench, 2, 2, 0);
        Check.keep(bench, 3, 1, 2, 0);
        Check.keep(bench, 4, 1, 1, 0);
        Check.due("order", bench.order(1, 0), 1);
        Check.due("order", bench.order(1, 2), 2);
        Check.due("order", bench.order(3, 4), 1);
        Check.due("order", bench.order(2, 4), 2);
    }

    private static int[] terms(int... codes) {
        return codes;
    }

    /** Also the other way round, which a greater one turns. */
    private static void dueOrder(int want, int[] first, int[] second) {
        TermBench bench = Check.benchWith(0, 0, 1, 2, 2);
        Check.keep(bench, 0, first);
        Check.keep(bench, 1, second);
        String what = Arrays.toString(first) + " to " + Arrays.toString(second);
        Check.due("order of " + what, bench.order(0, 1), want);
        int turned = want == 1 ? 2 : want == 2 ? 1 : want;
        Check.due("order turned of " + what, bench.order(1, 0), turned);
        Check.dueTerm("order leaves it", bench, 0, first);
        Check.dueTerm("order leaves it", bench, 1, second);
    }
}
