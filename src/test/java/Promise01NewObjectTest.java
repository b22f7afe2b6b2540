/** A new object: no symbols, an empty row, variable 0 in each slot, no match, nothing rewritten. */
public final class Promise01NewObjectTest {
    public static void main(String[] args) {
        TermBench bench = new TermBench();
        Check.due("count(0)", bench.count(0), 0);
        Check.due("count(1)", bench.count(1), 0);
        Check.due("count(2)", bench.count(2), 1);
        Check.due("count(3)", bench.count(3), 0);
        for (int slot = 0; slot < 16; slot++) {
            Check.dueTerm("a new object", bench, slot, -1);
        }
        Check.dueThrow("put(0) without symbols", Check.NO_SUCH, () -> bench.put(0));
        Check.dueThrow("keep of an empty row", Check.STATE, () -> bench.keep(0));
        Check.dueThrow("bound without a match", Check.NO_SUCH, () -> bench.bound(0, 0));
        for (int what = 0; what < 3; what++) {
            Check.due("told(0, " + what + ")", bench.told(0, what), 1);
        }
        Check.dueThrow("put of variable 6", Check.NO_SUCH, () -> bench.put(-7));
        Check.due("put of variable 5 without symbols", bench.put(-6), 0);
        Check.due("the first symbol", bench.symbol(0, false), 0);
        twoObjectsShareNothing();
        Check.end();
    }

    private static void twoObjectsShareNothing() {
        TermBench one = Check.benchWith(0);
        TermBench other = new TermBench();
        Check.keep(one, 3, 0);
        one.put(0);
        Check.due("symbols of the other", other.count(0), 0);
        Check.due("row of the other", other.count(1), 0);
        Check.dueTerm("slot of the other", other, 3, -1);
    }
}
