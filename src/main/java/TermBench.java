import java.util.NoSuchElementException;

/**
 * A bench for terms of first-order logic: they are put together sign by sign, compared by an
 * order, made the same by the most general values, matched, replaced and rewritten.
 *
 * <p>A call makes no object but what it throws: every row that it needs was made with the bench.
 */
public final class TermBench {
    private static final int MOST_SYMBOLS = 40;
    private static final int MOST_TERMS = 5;
    private static final int VARIABLES = 6;
    private static final int MOST_WEIGHT = 100;
    private static final int SLOTS = 16;
    private static final int MOST_REWRITINGS = 60;

    private static final int NEITHER = 0;
    private static final int FIRST = 1;
    private static final int SECOND = 2;
    private static final int SAME = 3;

    private static final int NO_VALUES = 0;
    private static final int UNIFIED = 1;
    private static final int TOO_LARGE = -1;

    private final Alphabet alphabet;
    private final Term[] slots;
    private final Term row;
    private int lacking;
    private final Term work;
    private final Term spare;
    private final Term filled;
    private final Values trial;
    private final Values latest;
    private final Term latestSubject;
    private final Ordering ordering;
    private final Unifier unifier;
    private int rewritten;

    public TermBench() {
        alphabet = new Alphabet();
        slots = new Term[SLOTS];
        for (int slot = 0; slot < SLOTS; slot++) {
            slots[slot] = new Term();
        }
        row = new Term();
        row.weight = 0;
        lacking = 1;
        work = new Term();
        spare = new Term();
        filled = new Term();
        trial = new Values();
        latest = new Values();
        latestSubject = new Term();
        ordering = new Ordering();
        unifier = new Unifier();
    }

    public int symbol(int terms, boolean predicate) throws IllegalArgumentException, IllegalStateException {
        if (terms < 0 || terms > MOST_TERMS) {
            throw new IllegalArgumentException("a symbol has 0 to 5 terms");
        }
        if (alphabet.size >= MOST_SYMBOLS) {
            throw new IllegalStateException("there are 40 symbols");
        }
        return alphabet.enter(terms, predicate);
    }

    public int put(int code) throws NoSuchElementException, IllegalStateException {
        if (code < -VARIABLES || code >= alphabet.size) {
            throw new NoSuchElementException("no such symbol or variable");
        }
        int lackingThen = lacking - 1 + alphabet.termsOf(code);
        // Each term that is still lacking needs one code at the least.
        if (lacking == 0 || row.weight + 1 + lackingThen > MOST_WEIGHT) {
            throw new IllegalStateException("the row is whole, or would grow too long");
        }
        row.add(code);
        lacking = lackingThen;
        return lacking;
    }

    public int keep(int slot) throws NoSuchElementException, IllegalStateException {
        requireSlot(slot);
        if (lacking != 0) {
            throw new IllegalStateException("the row is not whole");
        }
        row.findEnds(alphabet);
        int weight = store(slot, row);
        row.weight = 0;
        lacking = 1;
        return weight;
    }

    public int order(int a, int b) throws NoSuchElementException {
        requireSlot(a);
        requireSlot(b);
        Term first = slots[a];
        Term second = slots[b];
        if (first.isAt(0, second, 0)) {
            return SAME;
        }
        if (ordering.isGreater(first, 0, second)) {
            return FIRST;
        }
        return ordering.isGreater(second, 0, first) ? SECOND : NEITHER;
    }

    public int unify(int to, int a, int b, boolean apart) throws NoSuchElementException {
        requireSlot(to);
        requireSlot(a);
        requireSlot(b);
        unifier.load(slots[a], slots[b], apart);
        if (!unifier.hasValues(alphabet)) {
            return NO_VALUES;
        }
        if (!unifier.write(work, spare)) {
            return TOO_LARGE;
        }
        work.findEnds(alphabet);
        store(to, work);
        return UNIFIED;
    }

    public boolean match(int a, int b) throws NoSuchElementException {
        requireSlot(a);
        requireSlot(b);
        if (!trial.find(slots[a], slots[b], 0, alphabet)) {
            return false;
        }
        latest.become(trial);
        // The slot may get another term before bound() asks.
        latestSubject.become(slots[b]);
        return true;
    }

    public int bound(int to, int variable) throws NoSuchElementException {
        requireSlot(to);
        if (!latest.has(variable)) {
            throw new NoSuchElementException("no match gave this variable a value");
        }
        int begin = latest.begins[variable];
        spare.weight = 0;
        spare.addPart(latestSubject, begin, latestSubject.ends[begin]);
        spare.findEnds(alphabet);
        return store(to, spare);
    }

    public int replace(int to, int t, int place, int by) throws NoSuchElementException, IllegalStateException {
        requireSlot(to);
        requireSlot(t);
        requireSlot(by);
        Term term = slots[t];
        requirePlace(term, place);
        if (term.weight - term.weightAt(place) + slots[by].weight > MOST_WEIGHT) {
            throw new IllegalStateException("the term would be too heavy");
        }
        splice(term, place, slots[by]);
        return store(to, spare);
    }

    public int rewrite(int to, int t, int l, int r) throws NoSuchElementException {
        requireSlot(to);
        requireSlot(t);
        requireSlot(l);
        requireSlot(r);
        Term left = slots[l];
        Term right = slots[r];
        work.become(slots[t]);
        int times = 0;
        if ((right.variables() & ~left.variables()) == 0) {
            while (times < MOST_REWRITINGS && rewriteFirstPlace(left, right)) {
                times++;
            }
        }
        store(to, work);
        rewritten += times;
        return times;
    }

    public int code(int slot, int i) throws NoSuchElementException {
        requireSlot(slot);
        requirePlace(slots[slot], i);
        return slots[slot].codes[i];
    }

    public int told(int slot, int what) throws NoSuchElementException, IllegalArgumentException {
        requireSlot(slot);
        switch (what) {
            case 0:
                return slots[slot].weight;
            case 1:
                return Integer.bitCount(slots[slot].variables());
            case 2:
                return slots[slot].depth();
            default:
                throw new IllegalArgumentException("0, 1 and 2 are told");
        }
    }

    public int count(int what) {
        switch (what) {
            case 0:
                return alphabet.size;
            case 1:
                return row.weight;
            case 2:
                return lacking;
            case 3:
                return rewritten;
            default:
                return -1;
        }
    }

    private static void requireSlot(int slot) {
        if (slot < 0 || slot >= SLOTS) {
            throw new NoSuchElementException("no such slot");
        }
    }

    private static void requirePlace(Term term, int place) {
        if (place < 0 || place >= term.weight) {
            throw new NoSuchElementException("no such place");
        }
    }

    private int store(int slot, Term term) {
        slots[slot].become(term);
        return term.weight;
    }

    /** Leaves in spare what the term is with the other one at the place. */
    private void splice(Term term, int place, Term by) {
        spare.weight = 0;
        spare.addPart(term, 0, place);
        spare.addPart(by, 0, by.weight);
        spare.addPart(term, term.ends[place], term.weight);
        spare.findEnds(alphabet);
    }

    private boolean rewriteFirstPlace(Term left, Term right) {
        for (int place = 0; place < work.weight; place++) {
            if (trial.find(left, work, place, alphabet) && fillsToLess(right, place)) {
                splice(work, place, filled);
                work.become(spare);
                return true;
            }
        }
        return false;
    }

    /** Whether right with the trial's values is less than the term at the place; it is in filled then. */
    private boolean fillsToLess(Term right, int place) {
        // A heavier term is never less, and might not even find room in filled.
        if (trial.weightOf(right, work) > work.weightAt(place)) {
            return false;
        }
        trial.fill(filled, right, work);
        filled.findEnds(alphabet);
        return ordering.isGreater(work, place, filled);
    }

    /** The symbols: how many terms each has, and which are predicates. */
    private static final class Alphabet {
        private final int[] terms;
        private final boolean[] predicates;
        private int size;

        Alphabet() {
            terms = new int[MOST_SYMBOLS];
            predicates = new boolean[MOST_SYMBOLS];
        }

        int enter(int termsOfIt, boolean predicate) {
            int number = size;
            terms[number] = termsOfIt;
            predicates[number] = predicate;
            size++;
            return number;
        }

        int termsOf(int code) {
            return code < 0 ? 0 : terms[code];
        }

        boolean isPredicate(int code) {
            return code >= 0 && predicates[code];
        }
    }

    /** The codes of a term, and for each place where the term that begins there has its end. */
    private static final class Term {
        private final int[] codes;
        private final int[] ends;
        private int weight;

        /** Variable 0. */
        Term() {
            codes = new int[MOST_WEIGHT];
            ends = new int[MOST_WEIGHT];
            codes[0] = -1;
            ends[0] = 1;
            weight = 1;
        }

        void add(int code) {
            if (weight < MOST_WEIGHT) {
                codes[weight] = code;
                weight++;
            }
        }

        void addPart(Term from, int begin, int end) {
            for (int place = begin; place < end; place++) {
                add(from.codes[place]);
            }
        }

        void become(Term other) {
            System.arraycopy(other.codes, 0, codes, 0, other.weight);
            System.arraycopy(other.ends, 0, ends, 0, other.weight);
            weight = other.weight;
        }

        /** From the last place to the first, so that the ends of a term's terms are there before its own. */
        void findEnds(Alphabet alphabet) {
            for (int place = weight - 1; place >= 0; place--) {
                int end = place + 1;
                int terms = alphabet.termsOf(codes[place]);
                for (int i = 0; i < terms && end < weight; i++) {
                    end = ends[end];
                }
                ends[place] = end;
            }
        }

        int weightAt(int place) {
            return ends[place] - place;
        }

        /** No term's codes begin another term's, so the first difference is inside both. */
        int firstDifference(int place, Term other, int otherPlace) {
            int shorter = Math.min(weightAt(place), other.weightAt(otherPlace));
            for (int i = 0; i < shorter; i++) {
                if (codes[place + i] != other.codes[otherPlace + i]) {
                    return i;
                }
            }
            return -1;
        }

        boolean isAt(int place, Term other, int otherPlace) {
            return firstDifference(place, other, otherPlace) < 0;
        }

        /** One bit for each variable that is in it. */
        int variables() {
            int bits = 0;
            for (int place = 0; place < weight; place++) {
                if (codes[place] < 0) {
                    bits |= 1 << (-1 - codes[place]);
                }
            }
            return bits;
        }

        int depth() {
            int deepest = 0;
            for (int place = 0; place < weight; place++) {
                deepest = Math.max(deepest, levelOf(place));
            }
            return deepest;
        }

        /** How many terms hold the place, the one that begins there being the last. */
        private int levelOf(int place) {
            int level = 0;
            for (int outer = 0; outer <= place; outer++) {
                if (ends[outer] > place) {
                    level++;
                }
            }
            return level;
        }
    }

    /** Values for the variables of a pattern: each is the term that begins at a place of a subject. */
    private static final class Values {
        private static final int NONE = -1;

        private final int[] begins;

        Values() {
            begins = new int[VARIABLES];
            for (int variable = 0; variable < VARIABLES; variable++) {
                begins[variable] = NONE;
            }
        }

        void become(Values other) {
            System.arraycopy(other.begins, 0, begins, 0, VARIABLES);
        }

        boolean has(int variable) {
            return variable >= 0 && variable < VARIABLES && begins[variable] != NONE;
        }

        /** Whether there are values that make the pattern the subject's term at the place. */
        boolean find(Term pattern, Term subject, int place, Alphabet alphabet) {
            for (int variable = 0; variable < VARIABLES; variable++) {
                begins[variable] = NONE;
            }
            int at = place;
            for (int i = 0; i < pattern.weight; i++) {
                int code = pattern.codes[i];
                if (at >= subject.weight) {
                    return false;
                }
                if (code >= 0) {
                    if (subject.codes[at] != code) {
                        return false;
                    }
                    at++;
                } else {
                    if (!take(-1 - code, subject, at, alphabet)) {
                        return false;
                    }
                    at = subject.ends[at];
                }
            }
            return true;
        }

        private boolean take(int variable, Term subject, int at, Alphabet alphabet) {
            if (begins[variable] != NONE) {
                return subject.isAt(begins[variable], subject, at);
            }
            begins[variable] = at;
            return !alphabet.isPredicate(subject.codes[at]);
        }

        /** The weight of a term with these values, whose variables all have one. */
        int weightOf(Term term, Term subject) {
            int weight = 0;
            for (int i = 0; i < term.weight; i++) {
                int code = term.codes[i];
                weight += code < 0 ? subject.weightAt(begins[-1 - code]) : 1;
            }
            return weight;
        }

        /** The term with these values, whose variables all have one. */
        void fill(Term result, Term term, Term subject) {
            result.weight = 0;
            for (int i = 0; i < term.weight; i++) {
                int code = term.codes[i];
                if (code < 0) {
                    int begin = begins[-1 - code];
                    result.addPart(subject, begin, subject.ends[begin]);
                } else {
                    result.add(code);
                }
            }
        }
    }

    /** Which of two terms is greater. */
    private static final class Ordering {
        private static final int NOT_GREATER = -1;
        private static final int OPEN = 0;
        private static final int GREATER = 1;

        private final int[] surplus;

        Ordering() {
            surplus = new int[VARIABLES];
        }

        /** Whether the term of s at the place is greater than t. */
        boolean isGreater(Term s, int place, Term t) {
            int difference = s.firstDifference(place, t, 0);
            // Before the difference both have the same codes, so the first terms in them that
            // differ begin at the same distance from the front, on every level down to it.
            for (int i = 0; i <= difference; i++) {
                if (s.ends[place + i] > place + difference) {
                    int verdict = compareHere(s, place + i, t, i);
                    if (verdict != OPEN) {
                        return verdict == GREATER;
                    }
                }
            }
            return false;
        }

        /** OPEN: the terms in them decide. */
        private int compareHere(Term s, int i, Term t, int j) {
            int more = s.weightAt(i) - t.weightAt(j);
            if (s.codes[i] < 0 || more < 0 || !hasEachVariableAsOften(s, i, t, j)) {
                return NOT_GREATER;
            }
            if (more > 0 || s.codes[i] > t.codes[j]) {
                return GREATER;
            }
            return s.codes[i] < t.codes[j] ? NOT_GREATER : OPEN;
        }

        private boolean hasEachVariableAsOften(Term s, int i, Term t, int j) {
            for (int variable = 0; variable < VARIABLES; variable++) {
                surplus[variable] = 0;
            }
            addOccurrences(s, i, 1);
            addOccurrences(t, j, -1);
            for (int variable = 0; variable < VARIABLES; variable++) {
                if (surplus[variable] < 0) {
                    return false;
                }
            }
            return true;
        }

        private void addOccurrences(Term term, int begin, int each) {
            for (int place = begin; place < term.ends[begin]; place++) {
                if (term.codes[place] < 0) {
                    surplus[-1 - term.codes[place]] += each;
                }
            }
        }
    }

    /**
     * Finds the most general values that make two terms the same. Terms that must become the
     * same are joined in classes, so that no term is copied before it is known that there are
     * values and that the result has room.
     */
    private static final class Unifier {
        /** Those of the first term, then those of the second if it has its own. */
        private static final int ALL_VARIABLES = 2 * VARIABLES;
        private static final int PLACES = 2 * MOST_WEIGHT;
        /** The places are nodes, and behind them the variables. */
        private static final int NODES = PLACES + ALL_VARIABLES;
        /** Beside the first pair, each place comes into at most one as a term of a joined term. */
        private static final int MOST_PAIRS = PLACES + 1;
        private static final int NONE = -1;
        private static final int UNKNOWN = 0;

        private final int[] codes;
        private final int[] ends;
        private final int[] parents;
        /** For the root of a class: a place in it that is no variable. */
        private final int[] schemas;
        private final int[] firsts;
        private final int[] seconds;
        private int pairs;
        private final int[] weights;
        private final int[] names;

        Unifier() {
            codes = new int[PLACES];
            ends = new int[PLACES];
            parents = new int[NODES];
            schemas = new int[NODES];
            firsts = new int[MOST_PAIRS];
            seconds = new int[MOST_PAIRS];
            weights = new int[ALL_VARIABLES];
            names = new int[ALL_VARIABLES];
        }

        void load(Term a, Term b, boolean apart) {
            loadOne(a, 0, 0);
            loadOne(b, MOST_WEIGHT, apart ? VARIABLES : 0);
            for (int node = 0; node < NODES; node++) {
                parents[node] = node;
                schemas[node] = node < PLACES ? node : NONE;
            }
            pairs = 0;
            addPair(0, MOST_WEIGHT);
        }

        private void loadOne(Term term, int from, int variablesFrom) {
            for (int place = 0; place < term.weight; place++) {
                int code = term.codes[place];
                codes[from + place] = code < 0 ? code - variablesFrom : code;
                ends[from + place] = from + term.ends[place];
            }
        }

        private void addPair(int first, int second) {
            if (pairs < MOST_PAIRS) {
                firsts[pairs] = first;
                seconds[pairs] = second;
                pairs++;
            }
        }

        boolean hasValues(Alphabet alphabet) {
            for (int pair = 0; pair < pairs && pair < MOST_PAIRS; pair++) {
                if (!join(root(nodeAt(firsts[pair])), root(nodeAt(seconds[pair])), alphabet)) {
                    return false;
                }
            }
            return noValueBeginsWithPredicate(alphabet) && weighValues();
        }

        private int nodeAt(int place) {
            return codes[place] < 0 ? PLACES - 1 - codes[place] : place;
        }

        private int root(int node) {
            int at = node;
            for (int step = 0; step < NODES && parents[at] != at; step++) {
                at = parents[at];
            }
            return at;
        }

        private boolean join(int first, int second, Alphabet alphabet) {
            if (first == second) {
                return true;
            }
            int schema = schemas[first];
            int other = schemas[second];
            if (schema != NONE && other != NONE) {
                if (codes[schema] != codes[other]) {
                    return false;
                }
                addPairsOfTerms(schema, other, alphabet.termsOf(codes[schema]));
            }
            parents[second] = first;
            schemas[first] = schema != NONE ? schema : other;
            return true;
        }

        private void addPairsOfTerms(int first, int second, int terms) {
            int i = first + 1;
            int j = second + 1;
            for (int term = 0; term < terms && i < PLACES && j < PLACES; term++) {
                addPair(i, j);
                i = ends[i];
                j = ends[j];
            }
        }

        /** A place of the variable's value, or NONE if it stays a variable. */
        private int schemaOf(int variable) {
            return schemas[root(PLACES + variable)];
        }

        private boolean noValueBeginsWithPredicate(Alphabet alphabet) {
            for (int variable = 0; variable < ALL_VARIABLES; variable++) {
                int schema = schemaOf(variable);
                if (schema != NONE && alphabet.isPredicate(codes[schema])) {
                    return false;
                }
            }
            return true;
        }

        /**
         * Each round weighs the values whose own variables are weighed already. One that no round
         * comes to has itself inside, and no term can be so: then the answer is false.
         */
        private boolean weighValues() {
            for (int variable = 0; variable < ALL_VARIABLES; variable++) {
                weights[variable] = schemaOf(variable) == NONE ? 1 : UNKNOWN;
            }
            int unknown = ALL_VARIABLES;
            for (int round = 0; round < ALL_VARIABLES && unknown > 0; round++) {
                unknown = 0;
                for (int variable = 0; variable < ALL_VARIABLES; variable++) {
                    if (weights[variable] == UNKNOWN) {
                        weights[variable] = weightWithValues(schemaOf(variable));
                    }
                    if (weights[variable] == UNKNOWN) {
                        unknown++;
                    }
                }
            }
            return unknown == 0;
        }

        /** A weight above the limit is told as one above it: values can grow without measure. */
        private int weightWithValues(int begin) {
            int weight = 0;
            for (int place = begin; place < ends[begin]; place++) {
                int each = codes[place] < 0 ? weights[-1 - codes[place]] : 1;
                if (each == UNKNOWN) {
                    return UNKNOWN;
                }
                weight = Math.min(weight + each, MOST_WEIGHT + 1);
            }
            return weight;
        }

        /** The first term with its values, or false if that is too heavy or has too many variables. */
        boolean write(Term result, Term other) {
            if (weightWithValues(0) > MOST_WEIGHT) {
                return false;
            }
            result.weight = 0;
            addPlaces(result, 0);
            boolean more = true;
            // A value inside a value is of another variable each time, so the rounds are enough.
            for (int round = 0; round < ALL_VARIABLES && more; round++) {
                more = putValuesIn(other, result);
                result.become(other);
            }
            return nameVariables(result);
        }

        private void addPlaces(Term result, int begin) {
            for (int place = begin; place < ends[begin]; place++) {
                result.add(codes[place]);
            }
        }

        private boolean putValuesIn(Term result, Term term) {
            boolean any = false;
            result.weight = 0;
            for (int place = 0; place < term.weight; place++) {
                int code = term.codes[place];
                int schema = code < 0 ? schemaOf(-1 - code) : NONE;
                if (schema == NONE) {
                    result.add(code);
                } else {
                    addPlaces(result, schema);
                    any = true;
                }
            }
            return any;
        }

        private boolean nameVariables(Term term) {
            for (int variable = 0; variable < ALL_VARIABLES; variable++) {
                names[variable] = NONE;
            }
            int named = 0;
            for (int place = 0; place < term.weight; place++) {
                if (term.codes[place] < 0) {
                    // A class without a schema has variables alone, so its root is one.
                    int variable = root(PLACES - 1 - term.codes[place]) - PLACES;
                    if (names[variable] == NONE) {
                        names[variable] = named;
                        named++;
                    }
                    term.codes[place] = -1 - names[variable];
                }
            }
            return named <= VARIABLES;
        }
    }
}
