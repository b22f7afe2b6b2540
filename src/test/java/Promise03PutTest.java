/** put: codes come to the end of THE ROW until it is whole, and never need more than 100. */
public final class Promise03PutTest {
    public static void main(String[] args) {
        lacks();
        noSuchCode();
        wholeRow();
        hundredCodesInAChain();
        roomForWhatLacks();
        wideTermThatJustFits();
        roomForEachNumberOfTerms();
        Check.end();
    }

    private static void lacks() {
        TermBench bench = Check.benchWith(0, 1, 2, 5);
        Check.due("put(3)", bench.put(3), 5);
        Check.due("put(2)", bench.put(2), 6);
        Check.due("put(1)", bench.put(1), 6);
        Check.due("put(0)", bench.put(0), 5);
        for (int variable = 0; variable < 5; variable++) {
            Check.due("put of a variable", bench.put(-1 - variable), 4 - variable);
        }
        bench.keep(2);
        Check.dueTerm("what was put", bench, 2, 3, 2, 1, 0, -1, -2, -3, -4, -5);
        Check.due("put(-6)", bench.put(-6), 0);
    }

    private static void noSuchCode() {
        TermBench bench = Check.benchWith(0, 2);
        bench.put(1);
        for (int code : new int[] {2, 3, 40, -7, -8, Integer.MAX_VALUE, Integer.MIN_VALUE}) {
            Check.dueThrow("put(" + code + ")", Check.NO_SUCH, () -> bench.put(code));
        }
        Check.due("codes", bench.count(1), 1);
        Check.due("lacking", bench.count(2), 2);
    }

    private static void wholeRow() {
        TermBench bench = Check.benchWith(0, 1);
        bench.put(0);
        Check.dueThrow("put to a whole row", Check.STATE, () -> bench.put(0));
        Check.dueThrow("put to a whole row", Check.STATE, () -> bench.put(1));
        Check.dueThrow("put to a whole row", Check.STATE, () -> bench.put(-1));
        Check.dueThrow("put of no code to a whole row", Check.NO_SUCH, () -> bench.put(2));
        Check.dueThrow("put of no code to a whole row", Check.NO_SUCH, () -> bench.put(-7));
        Check.due("keep", bench.keep(0), 1);
        Check.dueTerm("what was put", bench, 0, 0);
    }

    private static void hundredCodesInAChain() {
        TermBench bench = Check.benchWith(0, 1);
        for (int i = 0; i < 99; i++) {
            Check.due("put(1)", bench.put(1), 1);
        }
        Check.dueThrow("a 100th with one more to come", Check.STATE, () -> bench.put(1));
        Check.due("codes", bench.count(1), 99);
        Check.due("put(0)", bench.put(0), 0);
        Check.due("keep", bench.keep(0), 100);
        Check.dueTerm("the chain", bench, 0, Check.chain(99, 1, 0));
    }

    private static void roomForWhatLacks() {
        TermBench bench = Check.benchWith(2, 5, 0);
        for (int i = 1; i <= 19; i++) {
            Check.due("put(1)", bench.put(1), 1 + 4 * i);
        }
        // 19 codes and 77 to come are 96: five terms more make 101, two more 98.
        Check.dueThrow("put(1)", Check.STATE, () -> bench.put(1));
        Check.due("put(0)", bench.put(0), 78);
        Check.due("put(0)", bench.put(0), 79);
        Check.dueThrow("put(0)", Check.STATE, () -> bench.put(0));
        Check.due("codes", bench.count(1), 21);
        for (int i = 78; i >= 0; i--) {
            Check.due("put(2)", bench.put(2), i);
        }
        Check.due("keep", bench.keep(0), 100);
    }

    /** Behind n codes in a chain, a symbol with so many terms needs n + 1 + terms codes in all. */
    private static void roomForEachNumberOfTerms() {
        for (int terms = 0; terms <= 5; terms++) {
            aHundredCodes(terms);
        }
        for (int terms = 1; terms <= 5; terms++) {
            aHundredAndOneCodes(terms);
        }
    }

    /** Symbol n has n terms. */
    private static TermBench benchWithAChain(int length) {
        TermBench bench = Check.benchWith(0, 1, 2, 3, 4, 5);
        for (int i = 0; i < length; i++) {
            Check.due("put(1)", bench.put(1), 1);
        }
        return bench;
    }

    private static void aHundredCodes(int terms) {
        TermBench bench = benchWithAChain(99 - terms);
        Check.due("put(" + terms + ")", bench.put(terms), terms);
        for (int i = 1; i <= terms; i++) {
            Check.dueThrow("a code more", Check.STATE, () -> bench.put(1));
            Check.due("put(0)", bench.put(0), terms - i);
        }
        Check.due("keep", bench.keep(0), 100);
    }

    private static void aHundredAndOneCodes(int terms) {
        TermBench bench = benchWithAChain(100 - terms);
        Check.dueThrow("put(" + terms + ")", Check.STATE, () -> bench.put(terms));
        Check.due("codes", bench.count(1), 100 - terms);
        Check.due("lacking", bench.count(2), 1);
        Check.due("put of one with a term less", bench.put(terms - 1), terms - 1);
    }

    private static void wideTermThatJustFits() {
        TermBench bench = Check.benchWith(3);
        for (int i = 1; i <= 33; i++) {
            Check.due("put(0)", bench.put(0), 1 + 2 * i);
        }
        Check.dueThrow("put(0)", Check.STATE, () -> bench.put(0));
        for (int i = 66; i >= 0; i--) {
            Check.due("put(-1)", bench.put(-1), i);
        }
        Check.due("keep", bench.keep(15), 100);
    }
}
