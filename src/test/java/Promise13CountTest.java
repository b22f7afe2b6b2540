/** count: symbols, the row's codes, what it lacks, and how often something was rewritten in all. */
public final class Promise13CountTest {
    public static void main(String[] args) {
        TermBench bench = Check.benchWith(0, 1, 3);
        due(bench, 3, 0, 1, 0);
        bench.put(2);
        due(bench, 3, 1, 3, 0);
        bench.put(1);
        due(bench, 3, 2, 3, 0);
        bench.put(0);
        due(bench, 3, 3, 2, 0);
        bench.put(-1);
        bench.put(-1);
        due(bench, 3, 5, 0, 0);
        bench.keep(0);
        due(bench, 3, 0, 1, 0);
        bench.symbol(5, true);
        due(bench, 4, 0, 1, 0);
        rewritten(bench);
        limits();
        theLastOfManyCalls();
        for (int what : new int[] {-1, 4, 5, Integer.MIN_VALUE, Integer.MAX_VALUE}) {
            Check.due("count(" + what + ")", bench.count(what), -1);
        }
        Check.end();
    }

    private static void limits() {
        TermBench bench = new TermBench();
        due(bench, 0, 0, 1, 0);
        for (int number = 0; number < 40; number++) {
            bench.symbol(number == 0 ? 1 : 5, false);
        }
        due(bench, 40, 0, 1, 0);
        for (int i = 1; i <= 19; i++) {
            bench.put(39);
        }
        due(bench, 40, 19, 77, 0);
        for (int i = 0; i < 4; i++) {
            bench.put(0);
        }
        due(bench, 40, 23, 77, 0);
        for (int i = 0; i < 77; i++) {
            bench.put(-1);
        }
        due(bench, 40, 100, 0, 0);
        bench.keep(0);
        due(bench, 40, 0, 1, 0);
    }

    /** "An object is used for at most 512 calls": what is counted then is as right as at first. */
    private static void theLastOfManyCalls() {
        TermBench bench = Check.benchWith(0, 1);
        Check.keep(bench, 0, Check.chain(99, 1, 0));
        Check.keep(bench, 1, 1, -1);
        int calls = 2 + 101 + 3;
        int times = 0;
        for (; calls < 511; calls++) {
            times += bench.rewrite(2, 0, 1, 3);
        }
        Check.due("rewritten", times, 405 * 60);
        Check.due("the 512th call", bench.count(3), times);
    }

    private static void rewritten(TermBench bench) {
        Check.keep(bench, 0, 1, 1, 1, 0);
        Check.keep(bench, 1, 1, -1);
        Check.due("rewrite", bench.rewrite(3, 0, 1, 2), 3);
        due(bench, 4, 0, 1, 3);
        Check.due("rewrite", bench.rewrite(3, 3, 1, 2), 0);
        due(bench, 4, 0, 1, 3);
        Check.due("rewrite", bench.rewrite(4, 0, 1, 2), 3);
        due(bench, 4, 0, 1, 6);
        Check.due("match", bench.match(1, 0), true);
        Check.due("replace", bench.replace(5, 0, 1, 1), 3);
        due(bench, 4, 0, 1, 6);
        Check.dueThrow("rewrite", Check.NO_SUCH, () -> bench.rewrite(4, 0, 1, 16));
        due(bench, 4, 0, 1, 6);
    }

    private static void due(TermBench bench, int symbols, int codes, int lacking, int rewritten) {
        Check.due("count(0)", bench.count(0), symbols);
        Check.due("count(1)", bench.count(1), codes);
        Check.due("count(2)", bench.count(2), lacking);
        Check.due("count(3)", bench.count(3), rewritten);
    }
}
