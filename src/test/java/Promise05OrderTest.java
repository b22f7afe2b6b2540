/** order: by the variables' number, then weight, then the first symbol, then the first terms that differ. */
public final class Promise05OrderTest {
    public static void main(String[] args) {
        due(3, "x", "x");
        due(0, "x", "y");
        due(3, "g(x, f(a))", "g(x, f(a))");
        weight();
        variables();
        eachVariableOnceLessOrAsOften();
        noVariableIsGreater();
        firstSymbol();
        eachSymbolAndTheNext();
        symbolZeroIsASymbol();
        innerTermsDecideLast();
        termsThatDiffer();
        predicatesAreSymbolsLikeOthers();
        wrongSlots();
        Check.end();
    }

    private static void weight() {
        due(1, "f(a)", "b");
        due(1, "f(a)", "a");
        due(1, "f(x)", "x");
        due(1, "f(x)", "a");
        due(0, "a", "x");
        due(0, "b", "y");
        // The heavier one is greater though its first symbol is less.
        due(1, "f(f(f(a)))", "h(b, b)");
        due(1, "f^99(x)", "f^98(x)");
    }

    private static void variables() {
        due(0, "f(x)", "y");
        due(0, "f(f(f(f(x))))", "g(x, x)");
        due(1, "f(g(x, x))", "g(x, x)");
        due(1, "g(x, f(y))", "g(y, x)");
        due(0, "g(x, f(x))", "g(y, x)");
        due(1, "g(x, x)", "f(x)");
        due(1, "g(w, f(w))", "f(w)");
        due(0, "g(w, f(w))", "f(v)");
    }

    /** "each VARIABLE is at least as often in s" */
    private static void eachVariableOnceLessOrAsOften() {
        for (String v : new String[] {"x", "y", "z", "u", "v", "w"}) {
            due(1, "f(f(f(g(" + v + ", " + v + "))))", "g(" + v + ", " + v + ")");
            due(0, "f(f(f(g(" + v + ", a))))", "g(" + v + ", " + v + ")");
            due(1, "h(" + v + ", " + v + ")", "g(" + v + ", " + v + ")");
            due(1, "h(" + v + ", " + v + ")", "g(" + v + ", a)");
            due(0, "h(" + v + ", a)", "g(" + v + ", " + v + ")");
            due(0, "f(" + v + ")", "f(a)");
            due(1, "f(f(" + v + "))", "f(a)");
        }
        due(1, "f(g(k(x, y, z, u, v), w))", "g(w, k(v, u, z, y, x))");
        due(0, "f(g(k(x, y, z, u, v), v))", "g(w, k(v, u, z, y, x))");
    }

    /** "s is none" */
    private static void noVariableIsGreater() {
        for (String v : new String[] {"x", "y", "z", "u", "v", "w"}) {
            due(0, v, "a");
            due(0, v, "b");
            due(3, v, v);
            due(2, v, "f(" + v + ")");
            due(0, "g(" + v + ", b)", "g(a, b)");
        }
        due(0, "x", "w");
        due(0, "w", "x");
    }

    /** "the first SYMBOL of s has the greater number", by one and by 39. */
    private static void eachSymbolAndTheNext() {
        TermBench bench = new TermBench();
        for (int number = 0; number < 40; number++) {
            bench.symbol(0, number % 3 == 0);
            Check.keep(bench, number % 2, number);
            if (number > 0) {
                Check.due("order of a number and the one before", bench.order(number % 2, 1 - number % 2), 1);
                Check.due("order of a number and the next", bench.order(1 - number % 2, number % 2), 2);
            }
        }
        Check.keep(bench, 2, 0);
        Check.due("order of 39 and 0", bench.order(1, 2), 1);
        Check.due("order of 0 and 39", bench.order(2, 1), 2);
    }

    private static void firstSymbol() {
        due(1, "b", "a");
        due(1, "h(a, a)", "g(b, b)");
        due(1, "h(x, y)", "g(y, x)");
        due(0, "h(x, a)", "g(y, a)");
        due(1, "h(x, a)", "g(a, a)");
        due(0, "h(a, a)", "g(a, x)");
    }

    private static void termsThatDiffer() {
        due(1, "g(b, a)", "g(a, b)");
        due(1, "g(a, b)", "g(a, a)");
        due(1, "g(f(x), y)", "g(x, f(y))");
        due(0, "g(x, y)", "g(y, x)");
        due(0, "g(a, x)", "g(x, a)");
        // The first that differ decide, not a later and greater one.
        due(1, "g(f(a), a)", "g(a, f(b))");
        due(1, "f(f(b))", "f(f(a))");
        due(1, "f(g(x, f(b)))", "f(g(x, f(a)))");
        // The whole has each variable as often, but the first terms that differ have not.
        due(0, "g(f(x), y)", "g(y, f(x))");
        due(0, "g(h(x, a), y)", "g(g(y, a), x)");
        due(0, "g(g(x, f(a)), g(y, x))", "g(g(y, a), f(g(x, x)))");
        due(0, "g(g(x, y), g(y, x))", "g(g(y, x), g(x, y))");
        due(1, "g(h(x, y), x)", "g(g(y, x), x)");
        // Deep inside: the terms round the difference have the same weight and symbol.
        due(1, "g(x, g(f(a), b))", "g(x, g(b, f(a)))");
        due(1, "g(x, g(g(a, b), b))", "g(x, g(g(a, a), b))");
        // Deep inside, a difference in weight goes before one in symbols.
        due(1, "g(x, g(f(a), b))", "g(x, h(a, a))");
        due(2, "g(x, g(f(a), b))", "g(x, h(b, f(a)))");
        due(1, "f^99(b)", "f^99(a)");
    }

    private static void symbolZeroIsASymbol() {
        TermBench bench = Check.benchWith(1, 0);
        Check.keep(bench, 1, 0, -1);
        Check.keep(bench, 2, 0, 1);
        Check.keep(bench, 3, 0, 0, 1);
        Check.due("f(x) to x", bench.order(1, 0), 1);
        Check.due("f(c) to f(f(c))", bench.order(2, 3), 2);
        Check.due("f(f(c)) to f(c)", bench.order(3, 2), 1);
    }

    /** The terms in them say nothing where variables, weight or symbol have spoken. */
    private static void innerTermsDecideLast() {
        due(2, "g(b, a)", "g(a, f(b))");
        due(2, "f(g(b, a))", "f(g(a, f(b)))");
        due(0, "g(b, a)", "g(a, x)");
        due(0, "f(g(b, a))", "f(g(a, x))");
        due(0, "g(f(x), a)", "g(x, f(y))");
        due(2, "g(b, b)", "h(a, a)");
        due(2, "f(g(b, b))", "f(h(a, a))");
    }

    private static void predicatesAreSymbolsLikeOthers() {
        due(1, "p(a)", "f(a)");
        due(1, "p(a)", "a");
        due(1, "p(p(a))", "p(f(a))");
        due(1, "f(f(a))", "p(a)");
        due(1, "p(x)", "x");
    }

    private static void wrongSlots() {
        TermBench bench = new TermBench();
        for (int slot : new int[] {-1, 16, Integer.MIN_VALUE, Integer.MAX_VALUE}) {
            Check.dueThrow("order", Check.NO_SUCH, () -> bench.order(slot, 0));
            Check.dueThrow("order", Check.NO_SUCH, () -> bench.order(0, slot));
        }
        Check.due("order of the last slots", bench.order(15, 15), 3);
    }

    /** Also the other way round, which a greater one turns. */
    private static void due(int want, String first, String second) {
        TermBench bench = Terms.bench();
        Terms.keep(bench, 0, first);
        Terms.keep(bench, 1, second);
        String what = first + " to " + second;
        Check.due("order of " + what, bench.order(0, 1), want);
        int turned = want == 1 ? 2 : want == 2 ? 1 : want;
        Check.due("order turned of " + what, bench.order(1, 0), turned);
        Terms.due("order leaves it", bench, 0, first);
        Terms.due("order leaves it", bench, 1, second);
    }
}
