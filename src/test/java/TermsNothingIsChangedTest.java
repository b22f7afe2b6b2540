/**
 * Section 'Terms': "What a call throws is tested in the order in which it stands there; then nothing
 * is changed." Every way in which a call is refused, just outside each boundary and far outside.
 */
public final class TermsNothingIsChangedTest {
    private static final int[] NO_SLOTS = {-1, 16, Integer.MIN_VALUE, Integer.MAX_VALUE};
    private static final int[] NO_VARIABLES = {-1, 6, Integer.MIN_VALUE, Integer.MAX_VALUE};
    private static final int[] NO_TERMS = {-1, 6, Integer.MIN_VALUE, Integer.MAX_VALUE};
    private static final int[] NO_WHAT = {-1, 3, Integer.MIN_VALUE, Integer.MAX_VALUE};

    public static void main(String[] args) {
        symbol();
        put();
        keep();
        orderAndMatch();
        unify();
        bound();
        replace();
        rewrite();
        codeAndTold();
        onANewObject();
        Check.end();
    }

    private static void symbol() {
        for (int terms : NO_TERMS) {
            argument("symbol(" + terms + ")", bench -> bench.symbol(terms, false));
            argument("symbol(" + terms + ")", bench -> bench.symbol(terms, true));
            Refused.due("wrong terms before a full alphabet", Check.ARGUMENT, Benches::withFortySymbols,
                    bench -> bench.symbol(terms, false));
        }
        for (int terms = 0; terms <= 5; terms++) {
            int those = terms;
            Refused.due("a 41st function", Check.STATE, Benches::withFortySymbols,
                    bench -> bench.symbol(those, false));
            Refused.due("a 41st predicate", Check.STATE, Benches::withFortySymbols,
                    bench -> bench.symbol(those, true));
        }
    }

    private static void put() {
        for (int code : new int[] {-7, Benches.SYMBOLS, Integer.MIN_VALUE, Integer.MAX_VALUE}) {
            noSuch("put(" + code + ")", bench -> bench.put(code));
            Refused.due("no such code before a whole row", Check.NO_SUCH, Benches::withAWholeRow,
                    bench -> bench.put(code));
            Refused.due("no such code before a row that is too long", Check.NO_SUCH,
                    Benches::withOneCodeOfRoom, bench -> bench.put(code));
        }
        for (int code = -6; code < Benches.SYMBOLS; code++) {
            int each = code;
            Refused.due("put(" + code + ") to a whole row", Check.STATE, Benches::withAWholeRow,
                    bench -> bench.put(each));
        }
        for (int code = 2; code < Benches.SYMBOLS; code++) {
            int each = code;
            Refused.due("put(" + code + ") where one code has room", Check.STATE, Benches::withOneCodeOfRoom,
                    bench -> bench.put(each));
        }
    }

    private static void keep() {
        for (int slot : NO_SLOTS) {
            noSuch("keep without a slot before a row that is not whole", bench -> bench.keep(slot));
            Refused.due("keep of a whole row without a slot", Check.NO_SUCH, Benches::withAWholeRow,
                    bench -> bench.keep(slot));
        }
        for (int slot : new int[] {0, 15}) {
            Refused.due("keep of an empty row", Check.STATE, Benches::withAnEmptyRow, bench -> bench.keep(slot));
            Refused.due("keep of half a row", Check.STATE, Benches::withHalfARow, bench -> bench.keep(slot));
            Refused.due("keep of a row that lacks one code", Check.STATE, Benches::withOneCodeOfRoom,
                    bench -> bench.keep(slot));
        }
    }

    private static void orderAndMatch() {
        for (int slot : NO_SLOTS) {
            noSuch("order: a", bench -> bench.order(slot, 0));
            noSuch("order: b", bench -> bench.order(0, slot));
            noSuch("match: a", bench -> bench.match(slot, 0) ? 1 : 0);
            noSuch("match: b", bench -> bench.match(6, slot) ? 1 : 0);
        }
    }

    private static void unify() {
        for (int slot : NO_SLOTS) {
            noSuch("unify: to", bench -> bench.unify(slot, 2, 3, true));
            noSuch("unify: a", bench -> bench.unify(4, slot, 3, true));
            noSuch("unify: b", bench -> bench.unify(4, 2, slot, false));
            noSuch("unify: to, where there are no values", bench -> bench.unify(slot, 0, 2, true));
        }
    }

    private static void bound() {
        for (int slot : NO_SLOTS) {
            noSuch("bound: to", bench -> bench.bound(slot, 0));
        }
        for (int variable : NO_VARIABLES) {
            noSuch("bound: no such variable", bench -> bench.bound(4, variable));
        }
        for (int variable : new int[] {1, 3, 4, 5}) {
            noSuch("bound: a variable that was not in a", bench -> bench.bound(4, variable));
        }
    }

    private static void replace() {
        for (int slot : NO_SLOTS) {
            noSuch("replace: to", bench -> bench.replace(slot, 0, 0, 1));
            noSuch("replace: t", bench -> bench.replace(4, slot, 0, 1));
            noSuch("replace: by", bench -> bench.replace(4, 0, 0, slot));
            noSuch("replace: to before the weight", bench -> bench.replace(slot, 3, 1, Benches.HEAVIEST));
        }
        for (int place : new int[] {-1, 4, Integer.MIN_VALUE, Integer.MAX_VALUE}) {
            noSuch("replace: place " + place, bench -> bench.replace(4, 0, place, 1));
            noSuch("replace: place before the weight", bench -> bench.replace(4, 0, place, Benches.HEAVIEST));
        }
        noSuch("replace: place 100", bench -> bench.replace(4, Benches.HEAVIEST, Benches.ITS_WEIGHT, 6));
        state("replace: 101 codes", bench -> bench.replace(4, 3, 1, Benches.HEAVIEST));
        state("replace: 101 codes, to is t", bench -> bench.replace(3, 3, 1, Benches.HEAVIEST));
        state("replace: 101 codes, to is by", bench -> bench.replace(Benches.HEAVIEST, 3, 1, Benches.HEAVIEST));
        state("replace: 101 codes at the last place", bench -> bench.replace(4, Benches.HEAVIEST, 99, 3));
        state("replace: 199 codes", bench -> bench.replace(4, Benches.HEAVIEST, 99, Benches.HEAVIEST));
    }

    private static void rewrite() {
        for (int slot : NO_SLOTS) {
            noSuch("rewrite: to", bench -> bench.rewrite(slot, 2, 3, 6));
            noSuch("rewrite: t", bench -> bench.rewrite(4, slot, 3, 6));
            noSuch("rewrite: l", bench -> bench.rewrite(4, 2, slot, 6));
            noSuch("rewrite: r", bench -> bench.rewrite(4, 2, 3, slot));
        }
    }

    private static void codeAndTold() {
        for (int slot : NO_SLOTS) {
            noSuch("code: slot", bench -> bench.code(slot, 0));
            noSuch("told: slot", bench -> bench.told(slot, 0));
            noSuch("told: slot before what", bench -> bench.told(slot, 3));
        }
        for (int i : new int[] {-1, 4, Integer.MIN_VALUE, Integer.MAX_VALUE}) {
            noSuch("code: place " + i, bench -> bench.code(0, i));
        }
        noSuch("code: place 100", bench -> bench.code(Benches.HEAVIEST, Benches.ITS_WEIGHT));
        for (int what : NO_WHAT) {
            argument("told: what " + what, bench -> bench.told(0, what));
        }
    }

    private static void onANewObject() {
        Refused.due("put without symbols", Check.NO_SUCH, TermBench::new, bench -> bench.put(0));
        Refused.due("keep of an empty row", Check.STATE, TermBench::new, bench -> bench.keep(0));
        Refused.due("symbol(6)", Check.ARGUMENT, TermBench::new, bench -> bench.symbol(6, false));
        for (int variable = 0; variable < 6; variable++) {
            int each = variable;
            Refused.due("bound without a match", Check.NO_SUCH, TermBench::new, bench -> bench.bound(0, each));
        }
        Refused.due("place 1 of a variable", Check.NO_SUCH, TermBench::new, bench -> bench.code(0, 1));
        Refused.due("place 1 of a variable", Check.NO_SUCH, TermBench::new, bench -> bench.replace(0, 0, 1, 0));
    }

    private static void noSuch(String what, Refused.Call call) {
        Refused.due(what, Check.NO_SUCH, Benches::withHalfARow, call);
    }

    private static void state(String what, Refused.Call call) {
        Refused.due(what, Check.STATE, Benches::withHalfARow, call);
    }

    private static void argument(String what, Refused.Call call) {
        Refused.due(what, Check.ARGUMENT, Benches::withHalfARow, call);
    }
}
