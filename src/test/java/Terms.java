import java.util.ArrayList;
import java.util.List;

/**
 * Terms as text, for tests: constants a and b, functions f(.), g(., .), h(., .) and
 * k(., ., ., ., .), the predicate p(.), and the variables x, y, z, u, v, w. f^3(a) is f(f(f(a))).
 * The symbols' numbers go up in the order in which they stand here.
 */
final class Terms {
    private static final String SYMBOLS = "abfghkp";
    private static final int[] TERMS = {0, 0, 1, 2, 2, 5, 1};
    private static final String VARIABLES = "xyzuvw";

    private final String text;
    private int at = 0;
    private final List<Integer> codes = new ArrayList<>();

    private Terms(String text) {
        this.text = text.replace(" ", "");
    }

    static TermBench bench() {
        TermBench bench = new TermBench();
        for (int i = 0; i < TERMS.length; i++) {
            bench.symbol(TERMS[i], SYMBOLS.charAt(i) == 'p');
        }
        return bench;
    }

    static int[] codes(String text) {
        Terms terms = new Terms(text);
        terms.readTerm();
        if (terms.at != terms.text.length()) {
            throw new IllegalStateException("no term: " + text);
        }
        int[] codes = new int[terms.codes.size()];
        for (int i = 0; i < codes.length; i++) {
            codes[i] = terms.codes.get(i);
        }
        return codes;
    }

    static void keep(TermBench bench, int slot, String text) {
        Check.keep(bench, slot, codes(text));
    }

    static void due(String what, TermBench bench, int slot, String want) {
        Check.dueTerm(what + " (" + want + ")", bench, slot, codes(want));
    }

    private void readTerm() {
        char name = text.charAt(at++);
        if (VARIABLES.indexOf(name) >= 0) {
            codes.add(-1 - VARIABLES.indexOf(name));
            return;
        }
        int symbol = SYMBOLS.indexOf(name);
        int times = readTimes();
        for (int i = 0; i < times; i++) {
            codes.add(symbol);
        }
        for (int i = 0; i < TERMS[symbol]; i++) {
            expect(i == 0 ? '(' : ',');
            readTerm();
        }
        if (TERMS[symbol] > 0) {
            expect(')');
        }
    }

    private int readTimes() {
        if (at >= text.length() || text.charAt(at) != '^') {
            return 1;
        }
        int end = text.indexOf('(', at);
        int times = Integer.parseInt(text.substring(at + 1, end));
        at = end;
        return times;
    }

    private void expect(char sign) {
        if (text.charAt(at++) != sign) {
            throw new IllegalStateException("no term: " + text);
        }
    }
}
