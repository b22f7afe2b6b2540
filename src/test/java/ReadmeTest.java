/** What README.md tells of an ordinary use. */
public final class ReadmeTest {
    public static void main(String[] args) {
        TermBench bench = new TermBench();
        int a = bench.symbol(0, false);
        int f = bench.symbol(1, false);
        int p = bench.symbol(1, true);
        Check.due("symbol", a, 0);
        Check.due("put", bench.put(p), 1);
        Check.due("put", bench.put(f), 1);
        Check.due("put", bench.put(-1), 0);
        Check.due("keep", bench.keep(0), 3);
        Check.keep(bench, 1, p, -2);
        Check.due("unify", bench.unify(2, 0, 1, true), 1);
        Check.dueTerm("unify", bench, 2, p, f, -1);
        Check.due("match", bench.match(1, 0), true);
        Check.due("bound", bench.bound(3, 1), 2);
        Check.dueTerm("bound", bench, 3, f, -1);
        Check.due("order", bench.order(0, 1), 0);
        Check.due("rewrite", bench.rewrite(4, 0, 3, 5), 1);
        Check.dueTerm("rewrite", bench, 4, p, -1);
        Check.due("told", bench.told(4, 0), 2);
        Check.due("code", bench.code(4, 1), -1);
        Check.end();
    }
}
