import java.util.Arrays;

/** A house of formulas in one letter over the numbers modulo 32003. */
public final class FormulaWorks {
    private static final int PRIME = 32003;
    private static final int HIGHEST = 40;
    private static final int HIGHEST_ENTRY = 10;
    private static final int HIGHEST_SOUGHT = 20;
    /** Room of a polynomial on the way: the highest degree met there is 170, by made(). */
    private static final int WIDE = 192;
    private static final int MOST_THINGS = 150;
    private static final int MOST_TAKEN = 16;
    private static final int MOST_TEXT = 200;
    private static final int MOST_CELL_TEXT = 60;
    private static final int MOST_OPEN = 20;
    private static final int MOST_NODES = 200;
    private static final int MOST_PLACE = 60;
    private static final int CELLS = 16;
    private static final int NUMBERS = 25;

    private static final int FRACTION = 0;
    private static final int SERIES = 1;
    private static final int MATRIX = 2;
    private static final int FORMULA = 3;

    private static final int FINE = 0;
    private static final int BAD_SIGN = 1;
    private static final int EXTRA_DIGIT = 2;
    private static final int NO_HANDLE = 3;
    private static final int BY_ZERO = 4;
    private static final int TOO_GREAT = 5;
    private static final int TOO_MANY_OPEN = 6;
    private static final int NO_FRACTION = 7;
    private static final int IN_CIRCLE = 8;
    /** What isn't there; no fault of a text, but told like one by the workers. */
    private static final int NONE = 9;

    private final Thing[] things = new Thing[MOST_THINGS];
    private int thingCount;
    private final int[] text = new int[MOST_TEXT];
    private int textLength;
    private int lastFault;
    private int lastPlace;
    private final Poly[] taken = new Poly[MOST_TAKEN];
    private int takenCount;
    private final Algebra algebra;
    private final Parts parts;
    private final Minors minors;
    private final Rules rules;
    private final Trees trees;
    private final Reader reader;
    private final Sheet sheet;
    private final Poly one;
    private final Poly wide;
    private final Thing result;
    private final Thing spare;

    public FormulaWorks() {
        algebra = new Algebra();
        Linear linear = new Linear();
        parts = new Parts(algebra, linear);
        minors = new Minors(algebra);
        rules = new Rules(algebra, linear);
        trees = new Trees();
        reader = new Reader(algebra, trees, things, MOST_NODES / 2 + 4);
        sheet = new Sheet(new Reader(algebra, trees, things, 2 * MOST_OPEN + 8));
        one = new Poly(1);
        one.setNumber(1);
        wide = new Poly(WIDE);
        result = new Thing(HIGHEST + 1);
        spare = new Thing(HIGHEST + 1);
        lastPlace = -1;
    }

    // ---- texts

    public int type(long w) {
        int more = 0;
        for (int shift = 56; shift >= 0; shift -= 8) {
            if ((w >>> shift & 255) != 0) more++;
        }
        if (textLength + more > MOST_TEXT) return -1;
        for (int shift = 56; shift >= 0; shift -= 8) {
            int b = (int) (w >>> shift & 255);
            if (b != 0 && textLength < MOST_TEXT) {
                text[textLength] = b;
                textLength++;
            }
        }
        return textLength;
    }

    public int read() throws IllegalStateException, IllegalArgumentException {
        needRoom();
        reader.begin(text, textLength, Reader.HANDLES, thingCount);
        textLength = 0;
        reader.run();
        tellFault();
        return keepFraction(reader.values[0]);
    }

    public int fault(int what) {
        if (what == 0) return lastFault;
        return what == 1 ? lastPlace : -1;
    }

    public int printed(int f) throws IndexOutOfBoundsException, IllegalArgumentException {
        show(thing(f));
        return trees.shownLength;
    }

    public int letter(int f, int i) throws IndexOutOfBoundsException, IllegalArgumentException {
        show(thing(f));
        return i < 0 || i >= trees.shownLength ? -1 : trees.shown[i];
    }

    // ---- fractions

    public int number(long v) throws IllegalStateException {
        wide.setNumber(residue(v));
        return keepWhole(wide);
    }

    public int add(int f, int g) throws IndexOutOfBoundsException, IllegalArgumentException, IllegalStateException {
        return joined('+', thing(f), thing(g));
    }

    public int less(int f, int g) throws IndexOutOfBoundsException, IllegalArgumentException, IllegalStateException {
        return joined('-', thing(f), thing(g));
    }

    public int times(int f, int g) throws IndexOutOfBoundsException, IllegalArgumentException, IllegalStateException {
        return joined('*', thing(f), thing(g));
    }

    public int over(int f, int g)
            throws IndexOutOfBoundsException, IllegalArgumentException, ArithmeticException, IllegalStateException {
        Thing a = thing(f);
        Thing b = thing(g);
        if (a.kind == MATRIX) throw new IllegalArgumentException();
        return joined('/', a, b);
    }

    public int power(int f, int n) throws IndexOutOfBoundsException, IllegalArgumentException, IllegalStateException {
        Thing a = ofKind(f, FRACTION);
        if (n < 0 || n > 99) throw new IllegalArgumentException();
        return keepFraction(algebra.raise(a, n, result));
    }

    public int derive(int f) throws IndexOutOfBoundsException, IllegalArgumentException, IllegalStateException {
        Thing a = thing(f);
        if (a.kind == SERIES) return keepSeries(Series.slopeOf(a.numbers));
        needKind(a, FRACTION);
        return keepFraction(algebra.slopeOf(a, result));
    }

    public int put(int f, int g)
            throws IndexOutOfBoundsException, IllegalArgumentException, ArithmeticException, IllegalStateException {
        Thing a = thing(f);
        Thing b = thing(g);
        needKind(b, a.kind);
        if (a.kind == SERIES) {
            if (b.numbers[0] != 0) throw new IllegalArgumentException();
            return keepSeries(Series.inserted(a.numbers, b.numbers));
        }
        needKind(a, FRACTION);
        return keepFraction(algebra.insert(a, b, result));
    }

    public int value(int f, long v) throws IndexOutOfBoundsException, IllegalArgumentException {
        return valueAt(ofKind(f, FRACTION), residue(v));
    }

    public int common(int f, int g)
            throws IndexOutOfBoundsException, IllegalArgumentException, IllegalStateException {
        Thing a = thing(f);
        Thing b = thing(g);
        needWhole(a);
        needWhole(b);
        needOneNotZero(a, b);
        algebra.setCommon(a.top, b.top, wide);
        return keepWhole(wide);
    }

    public int resultant(int f, int g) throws IndexOutOfBoundsException, IllegalArgumentException {
        Thing a = thing(f);
        Thing b = thing(g);
        needWhole(a);
        needWhole(b);
        if (a.top.degree < 0 || b.top.degree < 0) throw new IllegalArgumentException();
        return algebra.resultantOf(a.top, b.top);
    }

    public int divided(int f, int g, int what)
            throws IndexOutOfBoundsException, IllegalArgumentException, ArithmeticException, IllegalStateException {
        Thing a = thing(f);
        Thing b = thing(g);
        needWhole(a);
        needWhole(b);
        needZeroOrOne(what);
        if (b.top.degree < 0) throw new ArithmeticException();
        algebra.setDivided(a.top, b.top, what == 0, wide);
        return keepWhole(wide);
    }

    public int combined(int f, int g, int what)
            throws IndexOutOfBoundsException, IllegalArgumentException, IllegalStateException {
        Thing a = thing(f);
        Thing b = thing(g);
        needWhole(a);
        needWhole(b);
        needOneNotZero(a, b);
        needZeroOrOne(what);
        algebra.setCombined(a.top, b.top, what == 0, wide);
        return keepWhole(wide);
    }

    public int least(int f, int g) throws IndexOutOfBoundsException, IllegalArgumentException, IllegalStateException {
        Thing a = thing(f);
        Thing b = thing(g);
        needWhole(a);
        needWhole(b);
        if (b.top.degree < 1) throw new IllegalArgumentException();
        rules.setLeast(a.top, b.top, wide);
        return keepWhole(wide);
    }

    // ---- factors, parts, integrals

    public int factors(int f) throws IndexOutOfBoundsException, IllegalArgumentException {
        parts.find(ofKind(f, FRACTION).factored(), false);
        return parts.found;
    }

    public int factor(int f, int k)
            throws IndexOutOfBoundsException, IllegalArgumentException, IllegalStateException {
        parts.find(ofKind(f, FRACTION).factored(), false);
        needBelow(k, parts.found);
        return keepWhole(parts.factors[k]);
    }

    public int often(int f, int k) throws IndexOutOfBoundsException, IllegalArgumentException {
        parts.find(ofKind(f, FRACTION).factored(), false);
        needBelow(k, parts.found);
        return parts.times[k];
    }

    public int remainder(int f) throws IndexOutOfBoundsException, IllegalArgumentException, IllegalStateException {
        Thing a = ofKind(f, FRACTION);
        algebra.setDivided(a.top, a.bottom, true, wide);
        return keepWhole(wide);
    }

    public int part(int f, int k, int j)
            throws IndexOutOfBoundsException, IllegalArgumentException, IllegalStateException {
        Thing a = ofKind(f, FRACTION);
        if (a.isWhole()) throw new IndexOutOfBoundsException();
        parts.find(a.factored(), false);
        needBelow(k, parts.found);
        if (j < 1 || j > parts.times[k]) throw new IndexOutOfBoundsException();
        parts.setPart(a, k, j, wide);
        return keepWhole(wide);
    }

    public int core(int f) throws IndexOutOfBoundsException, IllegalArgumentException, IllegalStateException {
        return keepFraction(parts.separate(ofKind(f, FRACTION), result, spare));
    }

    public int rest(int f) throws IndexOutOfBoundsException, IllegalArgumentException, IllegalStateException {
        parts.separate(ofKind(f, FRACTION), result, spare);
        return keepFraction(spare);
    }

    public int log(int f, int k) throws IndexOutOfBoundsException, IllegalArgumentException {
        parts.separate(ofKind(f, FRACTION), result, spare);
        if (spare.isWhole()) throw new IndexOutOfBoundsException();
        parts.find(spare.bottom, true);
        needBelow(k, parts.found);
        return parts.logOf(spare, parts.factors[k]);
    }

    public int integral(int f) throws IndexOutOfBoundsException, IllegalArgumentException, IllegalStateException {
        Thing a = thing(f);
        if (a.kind == SERIES) return keepSeries(Series.integralOf(a.numbers));
        needKind(a, FRACTION);
        Thing core = parts.separate(a, result, spare);
        needRoom();
        return spare.top.degree >= 0 ? -1 : keepFraction(core);
    }

    // ---- terms

    public int closed(int f) throws IndexOutOfBoundsException, IllegalArgumentException, IllegalStateException {
        Thing a = ofKind(f, FRACTION);
        if (a.top.degree < 0) throw new IllegalArgumentException();
        return keepFound(rules.close(a, result));
    }

    public int term(int f, int n) throws IndexOutOfBoundsException, IllegalArgumentException, ArithmeticException {
        Thing a = ofKind(f, FRACTION);
        needTerms(a, n);
        int t = 1;
        for (int i = 0; i < n; i++) t = t * valueThere(a, i) % PRIME;
        return t;
    }

    public int sum(int f, int n) throws IndexOutOfBoundsException, IllegalArgumentException, ArithmeticException {
        Thing a = ofKind(f, FRACTION);
        needTerms(a, n);
        int t = 1;
        int all = n == 0 ? 0 : 1;
        for (int i = 0; i < n - 1; i++) {
            t = t * valueThere(a, i) % PRIME;
            all = (all + t) % PRIME;
        }
        return all;
    }

    // ---- series

    public int series(int f)
            throws IndexOutOfBoundsException, IllegalArgumentException, ArithmeticException, IllegalStateException {
        Thing a = ofKind(f, FRACTION);
        if (a.bottom.coefficient(0) == 0) throw new ArithmeticException();
        return keepSeries(Series.ofFraction(a));
    }

    public int exponential(int s)
            throws IndexOutOfBoundsException, IllegalArgumentException, IllegalStateException {
        Thing a = ofKind(s, SERIES);
        if (a.numbers[0] != 0) throw new IllegalArgumentException();
        return keepSeries(Series.raisedFrom(a.numbers));
    }

    public int logarithm(int s) throws IndexOutOfBoundsException, IllegalArgumentException, IllegalStateException {
        Thing a = ofKind(s, SERIES);
        if (a.numbers[0] != 1) throw new IllegalArgumentException();
        return keepSeries(Series.integralOf(Series.quotient(Series.slopeOf(a.numbers), a.numbers)));
    }

    public int reverse(int s) throws IndexOutOfBoundsException, IllegalArgumentException, IllegalStateException {
        Thing a = ofKind(s, SERIES);
        if (a.numbers[0] != 0 || a.numbers[1] == 0) throw new IllegalArgumentException();
        return keepSeries(Series.reversed(a.numbers));
    }

    public int root(int s) throws IndexOutOfBoundsException, IllegalArgumentException, IllegalStateException {
        Thing a = ofKind(s, SERIES);
        int first = Series.lesserRoot(a.numbers[0]);
        if (first <= 0) throw new IllegalArgumentException();
        return keepSeries(Series.rootFrom(a.numbers, first));
    }

    public int guess(int s) throws IndexOutOfBoundsException, IllegalArgumentException, IllegalStateException {
        return keepFound(rules.guessFraction(ofKind(s, SERIES).numbers, result));
    }

    // ---- matrices

    public int take(int f) throws IndexOutOfBoundsException, IllegalArgumentException {
        Thing a = thing(f);
        needWhole(a);
        if (a.top.degree > HIGHEST_ENTRY) throw new IllegalArgumentException();
        if (takenCount >= MOST_TAKEN) return -1;
        taken[takenCount] = a.top;
        takenCount++;
        return takenCount;
    }

    public int matrix(int rows, int columns) throws IllegalArgumentException, IllegalStateException {
        if (rows < 1 || rows > 4 || columns < 1 || columns > 4) throw new IllegalArgumentException();
        if (rows * columns != takenCount) throw new IllegalArgumentException();
        needRoom();
        Thing m = new Thing(rows, columns, new Poly[rows * columns]);
        for (int i = 0; i < takenCount && i < m.entries.length; i++) m.entries[i] = taken[i];
        takenCount = 0;
        return keep(m);
    }

    public int entry(int m, int i, int j)
            throws IndexOutOfBoundsException, IllegalArgumentException, IllegalStateException {
        Thing a = ofKind(m, MATRIX);
        needBelow(i, a.rows);
        needBelow(j, a.columns);
        return keepWhole(a.entryAt(i, j));
    }

    public int turned(int m) throws IndexOutOfBoundsException, IllegalArgumentException, IllegalStateException {
        Thing a = ofKind(m, MATRIX);
        Thing turned = new Thing(a.columns, a.rows, new Poly[a.columns * a.rows]);
        for (int i = 0; i < a.columns; i++) {
            for (int j = 0; j < a.rows; j++) turned.setEntry(i, j, a.entryAt(j, i));
        }
        return keep(turned);
    }

    public int determinant(int m) throws IndexOutOfBoundsException, IllegalArgumentException, IllegalStateException {
        Thing a = ofKind(m, MATRIX);
        needSquare(a);
        int all = (1 << a.rows) - 1;
        minors.find(a, all);
        return keepWhole(minors.of(all));
    }

    public int rank(int m) throws IndexOutOfBoundsException, IllegalArgumentException {
        return minors.rankOf(ofKind(m, MATRIX));
    }

    public int invariant(int m, int k)
            throws IndexOutOfBoundsException, IllegalArgumentException, IllegalStateException {
        Thing a = ofKind(m, MATRIX);
        needBelow(k, minors.rankOf(a));
        minors.setInvariant(a, k, wide);
        return keepWhole(wide);
    }

    public int own(int m) throws IndexOutOfBoundsException, IllegalArgumentException, IllegalStateException {
        Thing a = ofKind(m, MATRIX);
        needSquare(a);
        return keepMatrix(minors.ownOf(a));
    }

    public int adjoint(int m) throws IndexOutOfBoundsException, IllegalArgumentException, IllegalStateException {
        Thing a = ofKind(m, MATRIX);
        needSquare(a);
        return keepMatrix(minors.adjointOf(a));
    }

    public int companion(int f) throws IndexOutOfBoundsException, IllegalArgumentException, IllegalStateException {
        Thing a = thing(f);
        needWhole(a);
        int n = a.top.degree;
        if (n < 1 || n > 4 || a.top.lead() != 1) throw new IllegalArgumentException();
        return keepMatrix(minors.companionOf(a.top));
    }

    public int within(int f, int m) throws IndexOutOfBoundsException, IllegalArgumentException, IllegalStateException {
        Thing a = thing(f);
        Thing b = thing(m);
        needWhole(a);
        needKind(b, MATRIX);
        needSquare(b);
        for (int i = 0; i < b.entries.length; i++) {
            if (b.entries[i].degree > 0) throw new IllegalArgumentException();
        }
        return keepMatrix(minors.inserted(a.top, b));
    }

    public int solved(int m, int j) throws IndexOutOfBoundsException, IllegalArgumentException, IllegalStateException {
        Thing a = ofKind(m, MATRIX);
        needBelow(j, a.columns - 1);
        return keepFound(minors.solve(a, j, result));
    }

    // ---- rules

    public int made(int m, int how, int f)
            throws IndexOutOfBoundsException, IllegalArgumentException, IllegalStateException {
        Thing a = thing(m);
        Thing b = thing(f);
        needRule(a);
        needZeroOrOne(how);
        if (b.kind == SERIES && how == 1) return keepSeries(Series.madeBy(a, b.numbers));
        needKind(b, FRACTION);
        return keepFraction(how == 0 ? rules.makeBySteps(a, b, result) : rules.makeBySlopes(a, b, result));
    }

    public int answers(int m, int how) throws IndexOutOfBoundsException, IllegalArgumentException {
        Thing a = thing(m);
        needRule(a);
        needZeroOrOne(how);
        return rules.openPowers(a, how);
    }

    public int answer(int m, int how, int k)
            throws IndexOutOfBoundsException, IllegalArgumentException, IllegalStateException {
        Thing a = thing(m);
        needRule(a);
        needZeroOrOne(how);
        needBelow(k, rules.openPowers(a, how));
        rules.setAnswer(k, wide);
        return keepWhole(wide);
    }

    public int meet(int m, int how, int f)
            throws IndexOutOfBoundsException, IllegalArgumentException, IllegalStateException {
        Thing a = thing(m);
        Thing b = thing(f);
        needRule(a);
        needZeroOrOne(how);
        needWhole(b);
        return keepFound(rules.meetWith(a, how, b.top, result));
    }

    public int unroll(int m, int s)
            throws IndexOutOfBoundsException, IllegalArgumentException, ArithmeticException, IllegalStateException {
        Thing a = thing(m);
        Thing b = thing(s);
        needRule(a);
        needKind(b, SERIES);
        Poly last = a.entryAt(0, a.columns - 1);
        for (int n = 0; n <= NUMBERS - a.columns; n++) {
            if (last.valueAt(n) == 0) throw new ArithmeticException();
        }
        return keepSeries(Series.unrolled(a, b.numbers));
    }

    public boolean obeys(int m, int s) throws IndexOutOfBoundsException, IllegalArgumentException {
        Thing a = thing(m);
        Thing b = thing(s);
        needRule(a);
        needKind(b, SERIES);
        return Series.obeying(a, b.numbers);
    }

    public int fit(int m, int f) throws IndexOutOfBoundsException, IllegalArgumentException, IllegalStateException {
        Thing a = thing(m);
        Thing b = thing(f);
        needRule(a);
        needKind(b, FRACTION);
        return keepFraction(rules.fitTo(a, b, result));
    }

    public int rule(int s, int r, int d)
            throws IndexOutOfBoundsException, IllegalArgumentException, IllegalStateException {
        Thing a = ofKind(s, SERIES);
        if (r < 0 || r > 3 || d < 0 || d > 4) throw new IllegalArgumentException();
        Thing found = rules.ruleOf(a.numbers, r, d);
        needRoom();
        return found == null ? -1 : keep(found);
    }

    public int recur(int m) throws IndexOutOfBoundsException, IllegalArgumentException, IllegalStateException {
        Thing a = thing(m);
        needRule(a);
        return keepMatrix(rules.stepsOf(a));
    }

    // ---- formulas

    public int formula() throws IllegalStateException, IllegalArgumentException {
        needRoom();
        reader.begin(text, textLength, Reader.TREE, thingCount);
        textLength = 0;
        reader.run();
        tellFault();
        return keepTree();
    }

    public int written(int f) throws IndexOutOfBoundsException, IllegalArgumentException, IllegalStateException {
        trees.showFraction(ofKind(f, FRACTION));
        needRoom();
        reader.begin(trees.shown, trees.shownLength, Reader.TREE, thingCount);
        reader.run();
        return keepTree();
    }

    public int worth(int f)
            throws IndexOutOfBoundsException, IllegalArgumentException, ArithmeticException, IllegalStateException {
        Thing a = ofKind(f, FORMULA);
        return keepFraction(reader.worthOf(a.numbers));
    }

    public int nodes(int f) throws IndexOutOfBoundsException, IllegalArgumentException {
        return ofKind(f, FORMULA).numbers.length;
    }

    public int node(int f, int n, int what) throws IndexOutOfBoundsException, IllegalArgumentException {
        Thing a = ofKind(f, FORMULA);
        needBelow(n, a.numbers.length);
        if (what < 0 || what > 3) throw new IllegalArgumentException();
        trees.load(a.numbers);
        if (what == 0) return trees.sort(n);
        if (what == 1) return trees.amount(n);
        return what == 2 ? trees.first(n) : trees.second(n);
    }

    public int change(int f, int n, int law)
            throws IndexOutOfBoundsException, IllegalArgumentException, IllegalStateException {
        Thing a = ofKind(f, FORMULA);
        needBelow(n, a.numbers.length);
        trees.load(a.numbers);
        if (!trees.fits(n, law)) throw new IllegalArgumentException();
        trees.replace(n);
        return keepTree();
    }

    public int simple(int f) throws IndexOutOfBoundsException, IllegalArgumentException, IllegalStateException {
        Thing a = ofKind(f, FORMULA);
        needRoom();
        trees.simplify(a.numbers);
        return keepTree();
    }

    public int rows() {
        return trees.rowCount;
    }

    public int row(int k, int what) {
        if (k < 0 || k >= trees.rowCount) return -1;
        if (what == 0) return trees.rowNodes[k];
        return what == 1 ? trees.rowLaws[k] : -1;
    }

    // ---- claims and the sheet

    public boolean claim() throws IllegalArgumentException {
        reader.begin(text, textLength, Reader.HANDLES | Reader.LETTERS | Reader.CLAIM, thingCount);
        textLength = 0;
        for (int turn = 0; turn <= MOST_TEXT; turn++) {
            int asked = reader.run();
            if (asked < 0) break;
            sheet.ask(asked);
            reader.give(sheet.fractionOf(asked));
        }
        tellFault();
        return reader.values[0].sameAs(reader.values[1]);
    }

    public int enter(int c) throws IndexOutOfBoundsException, IllegalArgumentException {
        needBelow(c, CELLS);
        if (textLength > MOST_CELL_TEXT) throw new IllegalArgumentException();
        int length = textLength;
        sheet.enterText(c, text, length);
        textLength = 0;
        return length;
    }

    public int cell(int c, int what) throws IndexOutOfBoundsException, IllegalArgumentException {
        needBelow(c, CELLS);
        if (what < 0 || what > 3) throw new IllegalArgumentException();
        if (what == 3) return Integer.bitCount(sheet.hangs[c]);
        sheet.ask(c);
        if (what == 0) return sheet.stateOf(c);
        return what == 1 ? sheet.faultOf(c) : sheet.placeOf(c);
    }

    public int get(int c) throws IndexOutOfBoundsException, IllegalArgumentException, IllegalStateException {
        needBelow(c, CELLS);
        sheet.ask(c);
        Thing t = sheet.fractionOf(c);
        if (t == null) throw new IllegalArgumentException();
        return keepFraction(t);
    }

    public int worked() {
        return sheet.worked;
    }

    // ---- what is told

    public int kind(int f) throws IndexOutOfBoundsException {
        return thing(f).kind;
    }

    public int degree(int f, int part) throws IndexOutOfBoundsException, IllegalArgumentException {
        Thing a = thing(f);
        needZeroOrOne(part);
        if (a.kind == FRACTION) return part == 0 ? a.top.degree : a.bottom.degree;
        if (a.kind == MATRIX) return part == 0 ? a.rows : a.columns;
        needKind(a, SERIES);
        return part == 0 ? Series.leastPower(a.numbers) : NUMBERS - 1;
    }

    public int at(int f, int part, int power) throws IndexOutOfBoundsException, IllegalArgumentException {
        Thing a = thing(f);
        needZeroOrOne(part);
        if (a.kind == FRACTION) return (part == 0 ? a.top : a.bottom).coefficient(power);
        needKind(a, SERIES);
        return power < 0 || power >= a.numbers.length ? 0 : a.numbers[power];
    }

    public boolean same(int f, int g) throws IndexOutOfBoundsException {
        Thing a = thing(f);
        return a.sameAs(thing(g));
    }

    public int count() {
        return thingCount;
    }

    public void clear() {
        for (int i = 0; i < thingCount; i++) things[i] = null;
        thingCount = 0;
        takenCount = 0;
        textLength = 0;
    }

    // ---- what the calls need

    private static int residue(long v) {
        return (int) Math.floorMod(v, (long) PRIME);
    }

    private Thing thing(int h) {
        if (h < 0 || h >= thingCount) throw new IndexOutOfBoundsException();
        Thing t = things[h];
        if (t == null) throw new IndexOutOfBoundsException();
        return t;
    }

    private Thing ofKind(int h, int kind) {
        Thing t = thing(h);
        needKind(t, kind);
        return t;
    }

    private static void needKind(Thing t, int kind) {
        if (t.kind != kind) throw new IllegalArgumentException();
    }

    private static void needWhole(Thing t) {
        if (t.kind != FRACTION || !t.isWhole()) throw new IllegalArgumentException();
    }

    private static void needOneNotZero(Thing a, Thing b) {
        if (a.top.degree < 0 && b.top.degree < 0) throw new IllegalArgumentException();
    }

    private static void needZeroOrOne(int what) {
        if (what != 0 && what != 1) throw new IllegalArgumentException();
    }

    private static void needBelow(int i, int bound) {
        if (i < 0 || i >= bound) throw new IndexOutOfBoundsException();
    }

    private static void needSquare(Thing m) {
        if (m.rows != m.columns) throw new IllegalArgumentException();
    }

    private static void needRule(Thing m) {
        if (m.kind != MATRIX || m.rows != 1) throw new IllegalArgumentException();
        if (m.entryAt(0, m.columns - 1).degree < 0) throw new IllegalArgumentException();
    }

    private static void needTerms(Thing f, int n) {
        if (f.top.degree < 0 || n < 0 || n > MOST_PLACE) throw new IllegalArgumentException();
    }

    private void needRoom() {
        if (thingCount >= MOST_THINGS) throw new IllegalStateException();
    }

    private static int valueAt(Thing f, int v) {
        int bottom = f.bottom.valueAt(v);
        if (bottom == 0) return -1;
        return f.top.valueAt(v) * Poly.inverseOf(bottom) % PRIME;
    }

    private static int valueThere(Thing f, int v) {
        int value = valueAt(f, v);
        if (value < 0) throw new ArithmeticException();
        return value;
    }

    private void tellFault() {
        lastFault = reader.fault;
        lastPlace = reader.faultPlace;
        if (lastFault != FINE) throw new IllegalArgumentException();
    }

    private void show(Thing t) {
        if (t.kind == FORMULA) {
            trees.showTree(t.numbers);
        } else {
            needKind(t, FRACTION);
            trees.showFraction(t);
        }
    }

    private int joined(int sign, Thing a, Thing b) {
        needKind(b, a.kind);
        if (a.kind == SERIES) return keepSeries(joinedSeries(sign, a.numbers, b.numbers));
        if (a.kind == MATRIX) return keepMatrix(joinedMatrices(sign, a, b));
        needKind(a, FRACTION);
        return keepFraction(algebra.join(sign, a, b, result));
    }

    private static int[] joinedSeries(int sign, int[] a, int[] b) {
        if (sign == '*') return Series.product(a, b);
        if (sign != '/') return Series.plus(a, b, sign == '+' ? 1 : PRIME - 1);
        if (b[0] == 0) throw new ArithmeticException();
        return Series.quotient(a, b);
    }

    private Thing joinedMatrices(int sign, Thing a, Thing b) {
        if (sign == '*') {
            if (a.columns != b.rows) throw new IllegalArgumentException();
            return minors.productOf(a, b);
        }
        if (a.rows != b.rows || a.columns != b.columns) throw new IllegalArgumentException();
        return minors.sumOf(a, b, sign == '+' ? 1 : PRIME - 1);
    }

    // ---- what the calls keep

    private int keep(Thing t) {
        needRoom();
        things[thingCount] = t;
        thingCount++;
        return thingCount - 1;
    }

    private int keepWhole(Poly p) {
        needRoom();
        if (p.degree > HIGHEST) throw new IllegalStateException();
        return keep(new Thing(p.kept(), one));
    }

    /** Keeps what a worker made: it says by its fault what it couldn't make. */
    private int keepFraction(Thing f) {
        if (f.fault == BY_ZERO) throw new ArithmeticException();
        needRoom();
        if (f.fault != FINE) throw new IllegalStateException();
        return keep(new Thing(f.top.kept(), f.isWhole() ? one : f.bottom.kept()));
    }

    private int keepFound(Thing f) {
        needRoom();
        return f.fault == NONE ? -1 : keepFraction(f);
    }

    private int keepSeries(int[] numbers) {
        return keep(new Thing(SERIES, numbers));
    }

    private int keepMatrix(Thing m) {
        needRoom();
        if (m.fault != FINE) throw new IllegalStateException();
        return keep(m);
    }

    private int keepTree() {
        needRoom();
        if (trees.length > MOST_NODES) throw new IllegalStateException();
        return keep(new Thing(FORMULA, trees.kept()));
    }

    /** A polynomial: its numbers stand at 0 .. degree, what stands behind them means nothing. */
    private static final class Poly {
        final int[] c;
        int degree;

        Poly(int room) {
            c = new int[room < 1 ? 1 : room];
            degree = -1;
        }

        /** 0 has none: 0 is answered. */
        static int inverseOf(int v) {
            int r = PRIME;
            int s = v;
            int t = 0;
            int u = 1;
            for (int turn = 0; turn < 64 && s != 0; turn++) {
                int q = r / s;
                int left = r - q * s;
                r = s;
                s = left;
                int next = t - q * u;
                t = u;
                u = next;
            }
            return t < 0 ? t + PRIME : t;
        }

        static int raised(int v, int n) {
            int power = 1;
            int square = v;
            for (int left = n; left > 0; left >>= 1) {
                if ((left & 1) == 1) power = power * square % PRIME;
                square = square * square % PRIME;
            }
            return power;
        }

        int coefficient(int power) {
            return power < 0 || power > degree ? 0 : c[power];
        }

        int lead() {
            return degree < 0 ? 0 : c[degree];
        }

        /** Sets the degree, at most a highest power that may be 0. */
        void trim(int highest) {
            int d = highest < c.length ? highest : c.length - 1;
            while (d >= 0 && c[d] == 0) d--;
            degree = d;
        }

        void setNumber(int v) {
            c[0] = v;
            degree = v == 0 ? -1 : 0;
        }

        void setPower(int power) {
            int d = power < c.length ? power : c.length - 1;
            for (int i = 0; i < d; i++) c[i] = 0;
            if (d >= 0) c[d] = 1;
            degree = d;
        }

        void setRow(int[] row, int from, int length) {
            int n = length < c.length ? length : c.length;
            for (int i = 0; i < n; i++) c[i] = from + i < row.length ? row[from + i] : 0;
            trim(n - 1);
        }

        void setCopy(Poly a) {
            degree = a.degree < c.length ? a.degree : -1;
            for (int i = 0; i <= degree; i++) c[i] = a.c[i];
        }

        Poly kept() {
            Poly copy = new Poly(degree + 1);
            copy.setCopy(this);
            return copy;
        }

        /** Is a + factor * b then; it may be a or b. */
        void setSum(Poly a, Poly b, int factor) {
            int d = a.degree > b.degree ? a.degree : b.degree;
            if (d >= c.length) d = c.length - 1;
            for (int i = 0; i <= d; i++) c[i] = (a.coefficient(i) + factor * b.coefficient(i)) % PRIME;
            trim(d);
        }

        /** Is a * b then; it must be neither. */
        void setProduct(Poly a, Poly b) {
            degree = a.degree < 0 || b.degree < 0 ? -1 : a.degree + b.degree;
            if (degree >= c.length) degree = -1;
            for (int k = degree; k >= 0; k--) {
                long sum = 0;
                int last = k < a.degree ? k : a.degree;
                for (int i = k > b.degree ? k - b.degree : 0; i <= last; i++) sum += a.c[i] * b.c[k - i];
                c[k] = (int) (sum % PRIME);
            }
        }

        void scale(int factor) {
            if (factor == 0) degree = -1;
            for (int i = 0; i <= degree; i++) c[i] = c[i] * factor % PRIME;
        }

        void makeMonic() {
            if (degree >= 0 && c[degree] != 1) scale(inverseOf(c[degree]));
        }

        void makeSlope() {
            for (int i = 1; i <= degree; i++) c[i - 1] = c[i] * i % PRIME;
            trim(degree - 1);
        }

        /** The one with this slope that is 0 at 0. */
        void makeIntegral() {
            int d = degree + 1 < c.length ? degree + 1 : c.length - 1;
            if (degree < 0) return;
            for (int i = d; i > 0; i--) c[i] = c[i - 1] * inverseOf(i) % PRIME;
            c[0] = 0;
            trim(d);
        }

        /** Puts x + by in place of x. */
        void shift(int by) {
            int h = Math.floorMod(by, PRIME);
            for (int i = 0; i < degree; i++) {
                for (int j = degree - 1; j >= i; j--) c[j] = (c[j] + h * c[j + 1]) % PRIME;
            }
        }

        int valueAt(int v) {
            int value = 0;
            for (int i = degree; i >= 0; i--) value = (value * v + c[i]) % PRIME;
            return value;
        }

        /** Leaves what is left of it by g; inverse is that of g's first number, quotient may be null. */
        void reduceBy(Poly g, int inverse, Poly quotient) {
            int d = g.degree < 0 ? -1 : degree - g.degree;
            if (d < 0 || quotient != null && d >= quotient.c.length) d = -1;
            for (int k = d; k >= 0; k--) {
                int q = c[k + g.degree] * inverse % PRIME;
                if (quotient != null) quotient.c[k] = q;
                if (q != 0) {
                    for (int i = 0; i <= g.degree; i++) c[k + i] = (c[k + i] + (PRIME - q) * g.c[i]) % PRIME;
                }
            }
            if (quotient != null) quotient.degree = d;
            while (degree >= 0 && c[degree] == 0) degree--;
        }

        boolean sameAs(Poly a) {
            if (degree != a.degree) return false;
            for (int i = 0; i <= degree; i++) {
                if (c[i] != a.c[i]) return false;
            }
            return true;
        }

        /** Whether it stands ahead of a among factors. */
        boolean isAheadOf(Poly a) {
            if (degree != a.degree) return degree < a.degree;
            for (int i = degree; i >= 0; i--) {
                if (c[i] != a.c[i]) return c[i] < a.c[i];
            }
            return false;
        }
    }

    /** What has a handle, or is on the way there; its fault says why it couldn't be made. */
    private static final class Thing {
        final int kind;
        final Poly top;
        final Poly bottom;
        final int rows;
        final int columns;
        final Poly[] entries;
        final int[] numbers;
        int fault;

        /** A fraction that changes, with room for so many numbers above and below. */
        Thing(int room) {
            kind = FRACTION;
            top = new Poly(room);
            bottom = new Poly(room);
            bottom.setNumber(1);
            rows = 0;
            columns = 0;
            entries = null;
            numbers = null;
        }

        Thing(Poly top, Poly bottom) {
            kind = FRACTION;
            this.top = top;
            this.bottom = bottom;
            rows = 0;
            columns = 0;
            entries = null;
            numbers = null;
        }

        Thing(int rows, int columns, Poly[] entries) {
            kind = MATRIX;
            top = null;
            bottom = null;
            this.rows = rows;
            this.columns = columns;
            this.entries = entries;
            numbers = null;
        }

        /** A series, or a formula. */
        Thing(int kind, int[] numbers) {
            this.kind = kind;
            top = null;
            bottom = null;
            rows = 0;
            columns = 0;
            entries = null;
            this.numbers = numbers;
        }

        boolean isWhole() {
            return bottom.degree == 0;
        }

        /** That whose factors are those of the fraction. */
        Poly factored() {
            return bottom.degree == 0 ? top : bottom;
        }

        void setFraction(Poly above, Poly below) {
            top.setCopy(above);
            bottom.setCopy(below);
            fault = FINE;
        }

        Poly entryAt(int i, int j) {
            return entries[i * columns + j];
        }

        void setEntry(int i, int j, Poly p) {
            if (p.degree > HIGHEST_ENTRY) fault = TOO_GREAT;
            entries[i * columns + j] = p;
        }

        boolean sameAs(Thing t) {
            if (kind != t.kind) return false;
            if (kind == FRACTION) return top.sameAs(t.top) && bottom.sameAs(t.bottom);
            return kind == MATRIX ? sameEntries(t) : sameNumbers(t);
        }

        private boolean sameEntries(Thing t) {
            if (rows != t.rows || columns != t.columns) return false;
            for (int i = 0; i < entries.length && i < t.entries.length; i++) {
                if (!entries[i].sameAs(t.entries[i])) return false;
            }
            return true;
        }

        private boolean sameNumbers(Thing t) {
            if (numbers.length != t.numbers.length) return false;
            for (int i = 0; i < numbers.length; i++) {
                if (numbers[i] != t.numbers[i]) return false;
            }
            return true;
        }
    }

    /** Polynomials and fractions; it lends rows (at most 10 are lent at once), so that no call makes its own. */
    private static final class Algebra {
        private static final int LENT = 16;

        private final Poly[] rows = new Poly[LENT];
        private int lent;

        Algebra() {
            for (int i = 0; i < LENT; i++) rows[i] = new Poly(WIDE);
        }

        int mark() {
            return lent;
        }

        /** What was lent since the mark comes back. */
        void release(int mark) {
            lent = mark < 0 || mark > LENT ? 0 : mark;
        }

        Poly lend() {
            if (lent < LENT) lent++;
            Poly p = rows[lent - 1];
            p.degree = -1;
            return p;
        }

        /** The monic common divisor; out may be a or b. */
        void setCommon(Poly a, Poly b, Poly out) {
            int mark = lent;
            Poly x = lend();
            Poly y = lend();
            x.setCopy(a);
            y.setCopy(b);
            for (int turn = 0; turn < 2 * WIDE && y.degree >= 0; turn++) {
                x.reduceBy(y, Poly.inverseOf(y.lead()), null);
                Poly z = x;
                x = y;
                y = z;
            }
            out.setCopy(x);
            if (x.degree >= 0) out.scale(Poly.inverseOf(x.lead()));
            release(mark);
        }

        void multiply(Poly a, Poly b) {
            int mark = lent;
            Poly product = lend();
            product.setProduct(a, b);
            a.setCopy(product);
            release(mark);
        }

        /** Quotient, or what is left; out may be f or g. */
        void setDivided(Poly f, Poly g, boolean quotient, Poly out) {
            int mark = lent;
            Poly left = lend();
            Poly times = lend();
            left.setCopy(f);
            left.reduceBy(g, Poly.inverseOf(g.lead()), times);
            out.setCopy(quotient ? times : left);
            release(mark);
        }

        /** What times a leaves 1 by m; their common divisor must be 1, the degree of m above 0. */
        void setInverse(Poly a, Poly m, Poly out) {
            int mark = lent;
            Poly r = lend();
            Poly s = lend();
            Poly t = lend();
            Poly u = lend();
            Poly quotient = lend();
            Poly product = lend();
            r.setCopy(m);
            s.setCopy(a);
            s.reduceBy(m, Poly.inverseOf(m.lead()), null);
            u.setNumber(1);
            for (int turn = 0; turn < 2 * WIDE && s.degree > 0; turn++) {
                r.reduceBy(s, Poly.inverseOf(s.lead()), quotient);
                product.setProduct(quotient, u);
                t.setSum(t, product, PRIME - 1);
                Poly z = r;
                r = s;
                s = z;
                z = t;
                t = u;
                u = z;
            }
            u.scale(Poly.inverseOf(s.lead()));
            out.setCopy(u);
            release(mark);
        }

        /** s, or t, with s f + t g the monic common divisor. */
        void setCombined(Poly f, Poly g, boolean first, Poly out) {
            int mark = lent;
            Poly common = lend();
            Poly cut = lend();
            Poly s = lend();
            setCommon(f, g, common);
            if (g.degree < 0) {
                setDivided(common, f, true, s);
            } else {
                setDivided(g, common, true, cut);
                if (cut.degree > 0) {
                    setDivided(f, common, true, s);
                    setInverse(s, cut, s);
                }
            }
            if (first) {
                out.setCopy(s);
            } else if (g.degree < 0) {
                out.setNumber(0);
            } else {
                cut.setProduct(s, f);
                cut.setSum(common, cut, PRIME - 1);
                setDivided(cut, g, true, out);
            }
            release(mark);
        }

        int resultantOf(Poly f, Poly g) {
            int mark = lent;
            Poly x = lend();
            Poly y = lend();
            x.setCopy(f);
            y.setCopy(g);
            int all = 1;
            for (int turn = 0; turn < 2 * WIDE && x.degree > 0 && y.degree >= 0; turn++) {
                int before = y.degree;
                y.reduceBy(x, Poly.inverseOf(x.lead()), null);
                if (y.degree >= 0) {
                    all = all * Poly.raised(x.lead(), before - y.degree) % PRIME;
                    if ((x.degree & y.degree & 1) == 1) all = (PRIME - all) % PRIME;
                }
                Poly z = x;
                x = y;
                y = z;
            }
            release(mark);
            return x.degree < 0 ? 0 : all * Poly.raised(x.lead(), y.degree) % PRIME;
        }

        /** Brings top through bottom to its lowest form, for out. */
        Thing settle(Poly top, Poly bottom, Thing out) {
            int mark = lent;
            Poly common = lend();
            if (top.degree < 0) bottom.setNumber(1);
            if (bottom.degree > 0) {
                setCommon(top, bottom, common);
                if (common.degree > 0) {
                    setDivided(top, common, true, top);
                    setDivided(bottom, common, true, bottom);
                }
            }
            top.scale(Poly.inverseOf(bottom.lead()));
            bottom.makeMonic();
            if (top.degree > HIGHEST || bottom.degree > HIGHEST) out.fault = TOO_GREAT;
            else out.setFraction(top, bottom);
            release(mark);
            return out;
        }

        /** a and b with a sign between; out may be a or b. */
        Thing join(int sign, Thing a, Thing b, Thing out) {
            if (sign == '/' && b.top.degree < 0) {
                out.fault = BY_ZERO;
                return out;
            }
            int mark = lent;
            Poly top = lend();
            Poly bottom = lend();
            Poly other = lend();
            if (sign == '*') {
                top.setProduct(a.top, b.top);
                bottom.setProduct(a.bottom, b.bottom);
            } else if (sign == '/') {
                top.setProduct(a.top, b.bottom);
                bottom.setProduct(a.bottom, b.top);
            } else {
                top.setProduct(a.top, b.bottom);
                other.setProduct(b.top, a.bottom);
                top.setSum(top, other, sign == '+' ? 1 : PRIME - 1);
                bottom.setProduct(a.bottom, b.bottom);
            }
            settle(top, bottom, out);
            release(mark);
            return out;
        }

        static int degreeOf(Thing f) {
            return f.top.degree > f.bottom.degree ? f.top.degree : f.bottom.degree;
        }

        /** a to the power n; out may be a. A power is in its lowest form when a is. */
        Thing raise(Thing a, int n, Thing out) {
            if (degreeOf(a) * n > HIGHEST) {
                out.fault = TOO_GREAT;
                return out;
            }
            int mark = lent;
            Poly top = lend();
            Poly bottom = lend();
            top.setNumber(1);
            bottom.setNumber(1);
            for (int i = 0; i < n; i++) {
                multiply(top, a.top);
                multiply(bottom, a.bottom);
            }
            out.setFraction(top, bottom);
            release(mark);
            return out;
        }

        Thing slopeOf(Thing a, Thing out) {
            int mark = lent;
            Poly top = lend();
            Poly bottom = lend();
            setSlopeTop(a.top, a.bottom, 1, top);
            bottom.setProduct(a.bottom, a.bottom);
            settle(top, bottom, out);
            release(mark);
            return out;
        }

        /** The top of the slope of n through b to a power, when its bottom is b to one more. */
        void setSlopeTop(Poly n, Poly b, int power, Poly out) {
            int mark = lent;
            Poly slope = lend();
            Poly other = lend();
            Poly product = lend();
            slope.setCopy(n);
            slope.makeSlope();
            product.setProduct(slope, b);
            slope.setCopy(b);
            slope.makeSlope();
            other.setProduct(n, slope);
            out.setSum(product, other, PRIME - power);
            release(mark);
        }

        /**
         * f with g in place of x. Degrees of fractions in their lowest form (the greater one of both)
         * are multiplied by that, so TOO GREAT is known ahead.
         */
        Thing insert(Thing f, Thing g, Thing out) {
            int n = degreeOf(f);
            if (n * degreeOf(g) > HIGHEST) {
                out.fault = TOO_GREAT;
                return out;
            }
            int mark = lent;
            Poly top = lend();
            Poly bottom = lend();
            setInserted(f.top, n, g, top);
            setInserted(f.bottom, n, g, bottom);
            if (bottom.degree < 0) out.fault = BY_ZERO;
            else settle(top, bottom, out);
            release(mark);
            return out;
        }

        /** p with g in place of x, times the bottom of g to the power n. */
        private void setInserted(Poly p, int n, Thing g, Poly out) {
            int mark = lent;
            Poly below = lend();
            Poly term = lend();
            below.setNumber(1);
            out.setNumber(p.coefficient(n));
            for (int i = n - 1; i >= 0; i--) {
                multiply(out, g.top);
                multiply(below, g.bottom);
                term.setCopy(below);
                term.scale(p.coefficient(i));
                out.setSum(out, term, 1);
            }
            release(mark);
        }
    }

    /** Linear equations: a column is free if it is a sum of numbers times columns ahead of it. */
    private static final class Linear {
        private static final int MOST_ROWS = 64;
        private static final int MOST_COLUMNS = 44;

        private final int[][] a = new int[MOST_ROWS][MOST_COLUMNS];
        private final int[] pivotRow = new int[MOST_COLUMNS];
        final int[] weights = new int[MOST_COLUMNS];
        private int rows;
        private int columns;

        void begin(int rows, int columns) {
            this.rows = rows < MOST_ROWS ? rows : MOST_ROWS;
            this.columns = columns < MOST_COLUMNS ? columns : MOST_COLUMNS;
            for (int i = 0; i < this.rows; i++) Arrays.fill(a[i], 0);
        }

        void set(int row, int column, int v) {
            if (row >= 0 && row < rows && column >= 0 && column < columns) a[row][column] = v;
        }

        void setColumn(int column, Poly p) {
            for (int i = 0; i <= p.degree; i++) set(i, column, p.c[i]);
        }

        void eliminate() {
            int done = 0;
            for (int column = 0; column < columns; column++) {
                int row = done;
                while (row < rows && a[row][column] == 0) row++;
                pivotRow[column] = row < rows ? done : -1;
                if (row < rows) {
                    int[] found = a[row];
                    a[row] = a[done];
                    a[done] = found;
                    clearColumn(done, column);
                    done++;
                }
            }
        }

        private void clearColumn(int pivot, int column) {
            int[] p = a[pivot];
            int inverse = Poly.inverseOf(p[column]);
            for (int j = column; j < columns; j++) p[j] = p[j] * inverse % PRIME;
            for (int i = 0; i < rows; i++) {
                int factor = a[i][column];
                if (i != pivot && factor != 0) {
                    int[] row = a[i];
                    for (int j = column; j < columns; j++) row[j] = (row[j] + (PRIME - factor) * p[j]) % PRIME;
                }
            }
        }

        boolean isFree(int column) {
            return column >= 0 && column < columns && pivotRow[column] < 0;
        }

        /** The least free column; as many as there are if none is. */
        int firstFree() {
            int column = 0;
            while (column < columns && pivotRow[column] >= 0) column++;
            return column;
        }

        /** What the columns ahead of a free one are multiplied by, to come to it. */
        void weigh(int free) {
            for (int j = 0; j < columns; j++) {
                boolean counts = j < free && free < columns && pivotRow[j] >= 0;
                weights[j] = counts ? a[pivotRow[j]][free] : 0;
            }
        }

        /** What the columns up to a free one are multiplied by, 1 for that, to come to 0. */
        void cancel(int free) {
            weigh(free);
            for (int j = 0; j < columns; j++) weights[j] = (PRIME - weights[j]) % PRIME;
            if (free >= 0 && free < columns) weights[free] = 1;
        }
    }

    /** Factors of fractions, their parts, and what they are the slopes of. */
    private static final class Parts {
        private static final int HALF = (PRIME - 1) / 2;

        private final Algebra algebra;
        private final Linear linear;
        final Poly[] factors = new Poly[HIGHEST];
        final int[] times = new int[HIGHEST];
        int found;
        /** Row d: x to the power PRIME to the power d, less what a polynomial divides. */
        private final Poly[] conjugates = new Poly[HIGHEST + 1];
        /** Row j: x to the power PRIME * j, likewise. */
        private final Poly[] images = new Poly[HIGHEST];
        private Poly latest;

        Parts(Algebra algebra, Linear linear) {
            this.algebra = algebra;
            this.linear = linear;
            for (int i = 0; i < HIGHEST; i++) {
                factors[i] = new Poly(HIGHEST + 1);
                images[i] = new Poly(HIGHEST);
            }
            for (int i = 0; i <= HIGHEST; i++) conjugates[i] = new Poly(HIGHEST);
        }

        /** Finds factors; those of one that never changes needn't be found twice in a row. */
        void find(Poly p, boolean changes) {
            if (p == latest && !changes) return;
            latest = changes ? null : p;
            found = 0;
            if (p.degree < 1) return;
            int mark = algebra.mark();
            Poly plain = algebra.lend();
            Poly slope = algebra.lend();
            slope.setCopy(p);
            slope.makeSlope();
            algebra.setCommon(p, slope, slope);
            algebra.setDivided(p, slope, true, plain);
            plain.makeMonic();
            findPlain(plain);
            sortFactors();
            countTimes(p);
            algebra.release(mark);
        }

        private void addFactor(Poly p) {
            if (found >= HIGHEST) return;
            factors[found].setCopy(p);
            found++;
        }

        /** Of a polynomial that has no factor twice: by their degrees, then one from another. */
        private void findPlain(Poly plain) {
            int mark = algebra.mark();
            Poly left = algebra.lend();
            Poly common = algebra.lend();
            Poly letter = algebra.lend();
            left.setCopy(plain);
            if (left.degree > 1) prepare(plain);
            for (int d = 1; d <= HIGHEST && 2 * d <= left.degree; d++) {
                if (d > 1) setConjugate(d);
                letter.setPower(1);
                common.setSum(conjugates[d], letter, PRIME - 1);
                algebra.setCommon(common, left, common);
                if (common.degree > 0) {
                    algebra.setDivided(left, common, true, left);
                    split(common, d);
                }
            }
            if (left.degree > 0) addFactor(left);
            algebra.release(mark);
        }

        private void prepare(Poly m) {
            int mark = algebra.mark();
            Poly letter = algebra.lend();
            letter.setPower(1);
            conjugates[0].setCopy(letter);
            setRaised(letter, PRIME, m, conjugates[1]);
            images[0].setNumber(1);
            for (int j = 1; j < m.degree; j++) {
                letter.setCopy(images[j - 1]);
                multiply(letter, conjugates[1], m);
                images[j].setCopy(letter);
            }
            algebra.release(mark);
        }

        /** Powers of a sum to the PRIME are sums of those powers: so row d comes from the one ahead. */
        private void setConjugate(int d) {
            int mark = algebra.mark();
            Poly sum = algebra.lend();
            Poly before = conjugates[d - 1];
            for (int j = 0; j <= before.degree && j < HIGHEST; j++) {
                if (before.c[j] != 0) sum.setSum(sum, images[j], before.c[j]);
            }
            conjugates[d].setCopy(sum);
            algebra.release(mark);
        }

        private void multiply(Poly a, Poly b, Poly m) {
            int mark = algebra.mark();
            Poly product = algebra.lend();
            product.setProduct(a, b);
            product.reduceBy(m, 1, null);
            a.setCopy(product);
            algebra.release(mark);
        }

        private void setRaised(Poly a, int n, Poly m, Poly out) {
            int mark = algebra.mark();
            Poly power = algebra.lend();
            power.setNumber(1);
            for (int bit = 15; bit >= 0; bit--) {
                multiply(power, power, m);
                if ((n >> bit & 1) == 1) multiply(power, a, m);
            }
            out.setCopy(power);
            algebra.release(mark);
        }

        /**
         * Splits a product of factors of one degree. Two of them come apart by some number below
         * PRIME: whether the norms of x + number are squares can't agree for all numbers.
         */
        private void split(Poly product, int d) {
            int first = found;
            addFactor(product);
            boolean whole = product.degree == d;
            for (int number = 0; number < PRIME && !whole; number++) {
                int pieces = found;
                whole = true;
                for (int i = first; i < pieces; i++) {
                    if (factors[i].degree > d) splitPiece(factors[i], d, number);
                    if (factors[i].degree > d) whole = false;
                }
                for (int i = pieces; i < found; i++) {
                    if (factors[i].degree > d) whole = false;
                }
            }
        }

        private void splitPiece(Poly piece, int d, int number) {
            int mark = algebra.mark();
            Poly norm = algebra.lend();
            Poly shifted = algebra.lend();
            Poly constant = algebra.lend();
            norm.setNumber(1);
            for (int i = 0; i < d; i++) {
                constant.setNumber(number);
                shifted.setSum(conjugates[i], constant, 1);
                shifted.reduceBy(piece, 1, null);
                multiply(norm, shifted, piece);
            }
            setRaised(norm, HALF, piece, shifted);
            constant.setNumber(1);
            shifted.setSum(shifted, constant, PRIME - 1);
            algebra.setCommon(shifted, piece, shifted);
            if (shifted.degree > 0 && shifted.degree < piece.degree) {
                algebra.setDivided(piece, shifted, true, constant);
                addFactor(constant);
                piece.setCopy(shifted);
            }
            algebra.release(mark);
        }

        private void sortFactors() {
            for (int i = 1; i < found; i++) {
                Poly p = factors[i];
                int k = i;
                while (k > 0 && p.isAheadOf(factors[k - 1])) {
                    factors[k] = factors[k - 1];
                    k--;
                }
                factors[k] = p;
            }
        }

        private void countTimes(Poly p) {
            int mark = algebra.mark();
            Poly whole = algebra.lend();
            Poly left = algebra.lend();
            Poly quotient = algebra.lend();
            whole.setCopy(p);
            for (int i = 0; i < found; i++) {
                times[i] = 0;
                for (int turn = 0; turn <= HIGHEST; turn++) {
                    left.setCopy(whole);
                    left.reduceBy(factors[i], 1, quotient);
                    if (left.degree >= 0 || quotient.degree < 0) break;
                    whole.setCopy(quotient);
                    times[i]++;
                }
            }
            algebra.release(mark);
        }

        /** Part k, j of a fraction whose factors were found: a digit, in powers of the factor, of its top there. */
        void setPart(Thing f, int k, int j, Poly out) {
            int mark = algebra.mark();
            Poly p = factors[k];
            Poly power = algebra.lend();
            Poly digits = algebra.lend();
            Poly inverse = algebra.lend();
            power.setNumber(1);
            for (int i = 0; i < times[k]; i++) algebra.multiply(power, p);
            algebra.setDivided(f.bottom, power, true, digits);
            algebra.setInverse(digits, power, inverse);
            digits.setCopy(f.top);
            digits.reduceBy(power, 1, null);
            multiply(digits, inverse, power);
            for (int i = times[k]; i > j; i--) algebra.setDivided(digits, p, true, digits);
            algebra.setDivided(digits, p, false, out);
            algebra.release(mark);
        }

        /**
         * Core and rest of a fraction: with its bottom's factors once in plain, the others in often,
         * the core's b and the rest's c come by linear equations from
         * left = b' plain - b plain often' / often + c often.
         */
        Thing separate(Thing f, Thing core, Thing rest) {
            int mark = algebra.mark();
            Poly whole = algebra.lend();
            Poly often = algebra.lend();
            Poly plain = algebra.lend();
            Poly above = algebra.lend();
            algebra.setDivided(f.top, f.bottom, true, whole);
            often.setCopy(f.bottom);
            often.makeSlope();
            algebra.setCommon(f.bottom, often, often);
            algebra.setDivided(f.bottom, often, true, plain);
            solve(f, plain, often);
            above.setRow(linear.weights, often.degree, plain.degree);
            algebra.settle(above, plain, rest);
            above.setRow(linear.weights, 0, often.degree);
            whole.makeIntegral();
            algebra.multiply(whole, often);
            above.setSum(above, whole, 1);
            algebra.settle(above, often, core);
            algebra.release(mark);
            return core;
        }

        private void solve(Thing f, Poly plain, Poly often) {
            int mark = algebra.mark();
            Poly slope = algebra.lend();
            Poly column = algebra.lend();
            Poly power = algebra.lend();
            int m = often.degree;
            int n = m + plain.degree;
            linear.begin(n, n + 1);
            slope.setCopy(often);
            slope.makeSlope();
            algebra.multiply(slope, plain);
            algebra.setDivided(slope, often, true, slope);
            for (int i = 0; i < n; i++) {
                power.setPower(i < m ? i : i - m);
                column.setProduct(power, i < m ? slope : often);
                if (i < m) {
                    power.makeSlope();
                    algebra.multiply(power, plain);
                    column.setSum(power, column, PRIME - 1);
                }
                linear.setColumn(i, column);
            }
            algebra.setDivided(f.top, f.bottom, false, column);
            linear.setColumn(n, column);
            linear.eliminate();
            linear.weigh(n);
            algebra.release(mark);
        }

        /** The number c for which a factor divides the top of a rest less c times its bottom's slope; -1 if none. */
        int logOf(Thing rest, Poly factor) {
            int mark = algebra.mark();
            Poly slope = algebra.lend();
            Poly top = algebra.lend();
            slope.setCopy(rest.bottom);
            slope.makeSlope();
            slope.reduceBy(factor, 1, null);
            algebra.setDivided(rest.top, factor, false, top);
            int c = top.coefficient(slope.degree) * Poly.inverseOf(slope.lead()) % PRIME;
            top.setSum(top, slope, PRIME - c);
            algebra.release(mark);
            return top.degree < 0 ? c : -1;
        }
    }

    /** Matrices: a minor is a determinant of some rows and columns, each told by a mask. */
    private static final class Minors {
        private final Algebra algebra;
        private final Poly[] minor = new Poly[16];
        private final int[] alive = new int[16];
        private final int[] chosen = new int[4];

        Minors(Algebra algebra) {
            this.algebra = algebra;
            for (int i = 0; i < minor.length; i++) minor[i] = new Poly(HIGHEST + 1);
        }

        /** Finds those of the first of the rows and of as many columns, for each choice of columns. */
        void find(Thing m, int rowMask) {
            minor[0].setNumber(1);
            int most = 0;
            for (int i = 0; i < m.rows && i < chosen.length; i++) {
                if ((rowMask >> i & 1) == 1) {
                    chosen[most] = i;
                    most++;
                }
            }
            for (int mask = 1; mask < 1 << m.columns && mask < minor.length; mask++) {
                int size = Integer.bitCount(mask);
                if (size <= most) expand(m, chosen[size - 1], mask, (size & 1) == 1);
            }
        }

        /** By the last row; plus is the sign at its first place. */
        private void expand(Thing m, int row, int mask, boolean plus) {
            int mark = algebra.mark();
            Poly sum = algebra.lend();
            Poly product = algebra.lend();
            boolean added = plus;
            for (int j = 0; j < m.columns; j++) {
                if ((mask >> j & 1) == 1) {
                    product.setProduct(m.entryAt(row, j), minor[mask ^ 1 << j]);
                    sum.setSum(sum, product, added ? 1 : PRIME - 1);
                    added = !added;
                }
            }
            minor[mask].setCopy(sum);
            algebra.release(mark);
        }

        Poly of(int columnMask) {
            return minor[columnMask & 15];
        }

        /** Notes which minors of as many rows as columns aren't 0. */
        private void survey(Thing m) {
            for (int rowMask = 0; rowMask < 1 << m.rows && rowMask < alive.length; rowMask++) {
                find(m, rowMask);
                alive[rowMask] = 0;
                for (int mask = 0; mask < 1 << m.columns && mask < minor.length; mask++) {
                    boolean square = Integer.bitCount(mask) == Integer.bitCount(rowMask);
                    if (square && minor[mask].degree >= 0) alive[rowMask] |= 1 << mask;
                }
            }
        }

        /** Some rows with a minor of columns among these that isn't 0, as many as can be. */
        private int bestRows(Thing m, int columns) {
            int best = 0;
            for (int rowMask = 0; rowMask < 1 << m.rows && rowMask < alive.length; rowMask++) {
                boolean more = Integer.bitCount(rowMask) > Integer.bitCount(best);
                for (int mask = 0; mask < 16 && more; mask++) {
                    if ((mask & ~columns) == 0 && (alive[rowMask] >> mask & 1) == 1) {
                        best = rowMask;
                        more = false;
                    }
                }
            }
            return best;
        }

        int rankOf(Thing m) {
            survey(m);
            return Integer.bitCount(bestRows(m, 15));
        }

        void setInvariant(Thing m, int k, Poly out) {
            int mark = algebra.mark();
            Poly lower = algebra.lend();
            setDivisor(m, k, lower);
            setDivisor(m, k + 1, out);
            algebra.setDivided(out, lower, true, out);
            algebra.release(mark);
        }

        private void setDivisor(Thing m, int size, Poly out) {
            out.setNumber(0);
            for (int rowMask = 0; rowMask < 1 << m.rows; rowMask++) {
                if (Integer.bitCount(rowMask) != size) continue;
                find(m, rowMask);
                for (int mask = 0; mask < 1 << m.columns && mask < minor.length; mask++) {
                    if (Integer.bitCount(mask) == size) algebra.setCommon(out, minor[mask], out);
                }
            }
        }

        /** Unknown j, by determinants. */
        Thing solve(Thing m, int j, Thing out) {
            survey(m);
            int right = 1 << m.columns - 1;
            int pivots = 0;
            int size = 0;
            for (int i = 0; i < m.columns - 1; i++) {
                int more = Integer.bitCount(bestRows(m, (1 << i + 1) - 1));
                if (more > size) pivots |= 1 << i;
                size = more;
            }
            if (Integer.bitCount(bestRows(m, 15)) > size) {
                out.fault = NONE;
                return out;
            }
            int mark = algebra.mark();
            Poly top = algebra.lend();
            Poly bottom = algebra.lend();
            bottom.setNumber(1);
            if ((pivots >> j & 1) == 1) {
                find(m, bestRows(m, pivots));
                bottom.setCopy(of(pivots));
                top.setCopy(of(pivots ^ 1 << j | right));
                // The right side stands last there, not in place of column j.
                if ((Integer.bitCount(pivots >> j + 1) & 1) == 1) top.scale(PRIME - 1);
            }
            algebra.settle(top, bottom, out);
            algebra.release(mark);
            return out;
        }

        private Thing empty(int rows, int columns) {
            return new Thing(rows, columns, new Poly[rows * columns]);
        }

        Thing sumOf(Thing a, Thing b, int factor) {
            int mark = algebra.mark();
            Poly sum = algebra.lend();
            Thing all = empty(a.rows, a.columns);
            for (int i = 0; i < a.rows; i++) {
                for (int j = 0; j < a.columns; j++) {
                    sum.setSum(a.entryAt(i, j), b.entryAt(i, j), factor);
                    all.setEntry(i, j, sum.kept());
                }
            }
            algebra.release(mark);
            return all;
        }

        Thing productOf(Thing a, Thing b) {
            int mark = algebra.mark();
            Poly sum = algebra.lend();
            Poly product = algebra.lend();
            Thing all = empty(a.rows, b.columns);
            for (int i = 0; i < a.rows; i++) {
                for (int j = 0; j < b.columns; j++) {
                    sum.setNumber(0);
                    for (int k = 0; k < a.columns && k < b.rows; k++) {
                        product.setProduct(a.entryAt(i, k), b.entryAt(k, j));
                        sum.setSum(sum, product, 1);
                    }
                    all.setEntry(i, j, sum.kept());
                }
            }
            algebra.release(mark);
            return all;
        }

        Thing ownOf(Thing m) {
            int mark = algebra.mark();
            Poly start = algebra.lend();
            Thing all = empty(m.rows, m.columns);
            for (int i = 0; i < m.rows; i++) {
                for (int j = 0; j < m.columns; j++) {
                    if (i == j) start.setPower(1);
                    else start.setNumber(0);
                    start.setSum(start, m.entryAt(i, j), PRIME - 1);
                    all.setEntry(i, j, start.kept());
                }
            }
            algebra.release(mark);
            return all;
        }

        Thing adjointOf(Thing m) {
            int mark = algebra.mark();
            Poly signed = algebra.lend();
            int whole = (1 << m.rows) - 1;
            Thing all = empty(m.rows, m.columns);
            for (int j = 0; j < m.columns; j++) {
                find(m, whole ^ 1 << j);
                for (int i = 0; i < m.rows; i++) {
                    signed.setCopy(of(whole ^ 1 << i));
                    if ((i + j & 1) == 1) signed.scale(PRIME - 1);
                    all.setEntry(i, j, signed.kept());
                }
            }
            algebra.release(mark);
            return all;
        }

        Thing companionOf(Poly f) {
            int mark = algebra.mark();
            Poly number = algebra.lend();
            int n = f.degree;
            Thing all = empty(n, n);
            for (int i = 0; i < n; i++) {
                for (int j = 0; j < n; j++) {
                    number.setNumber(i == j + 1 ? 1 : 0);
                    if (j == n - 1) number.setNumber((PRIME - f.coefficient(i)) % PRIME);
                    all.setEntry(i, j, number.kept());
                }
            }
            algebra.release(mark);
            return all;
        }

        /** f with a matrix of numbers in place of x. */
        Thing inserted(Poly f, Thing m) {
            int mark = algebra.mark();
            Poly number = algebra.lend();
            int n = m.rows;
            int[][] sum = new int[n][n];
            int[] row = new int[n];
            for (int power = f.degree; power >= 0; power--) {
                for (int i = 0; i < n; i++) {
                    System.arraycopy(sum[i], 0, row, 0, n);
                    for (int j = 0; j < n; j++) {
                        long all = i == j ? f.coefficient(power) : 0;
                        for (int k = 0; k < n; k++) all += row[k] * m.entryAt(k, j).coefficient(0);
                        sum[i][j] = (int) (all % PRIME);
                    }
                }
            }
            Thing all = empty(n, n);
            for (int i = 0; i < n; i++) {
                for (int j = 0; j < n; j++) {
                    number.setNumber(sum[i][j]);
                    all.setEntry(i, j, number.kept());
                }
            }
            algebra.release(mark);
            return all;
        }
    }

    /** What linear equations answer: rules, closed sums, fractions and rules found from a series. */
    private static final class Rules {
        private static final int SOUGHT = HIGHEST_SOUGHT + 1;

        private final Algebra algebra;
        private final Linear linear;

        Rules(Algebra algebra, Linear linear) {
            this.algebra = algebra;
            this.linear = linear;
        }

        void setLeast(Poly f, Poly g, Poly out) {
            int mark = algebra.mark();
            Poly power = algebra.lend();
            int inverse = Poly.inverseOf(g.lead());
            linear.begin(g.degree, g.degree + 1);
            power.setNumber(1);
            for (int i = 0; i <= g.degree; i++) {
                linear.setColumn(i, power);
                algebra.multiply(power, f);
                power.reduceBy(g, inverse, null);
            }
            linear.eliminate();
            int free = linear.firstFree();
            linear.cancel(free);
            out.setRow(linear.weights, 0, free + 1);
            algebra.release(mark);
        }

        /** What a rule makes of a polynomial. */
        private void apply(Thing m, int how, Poly f, Poly out) {
            int mark = algebra.mark();
            Poly image = algebra.lend();
            Poly product = algebra.lend();
            image.setCopy(f);
            out.setNumber(0);
            for (int k = 0; k < m.columns; k++) {
                product.setProduct(m.entryAt(0, k), image);
                out.setSum(out, product, 1);
                if (how == 0) image.shift(1);
                else image.makeSlope();
            }
            algebra.release(mark);
        }

        /** Column i is what the rule makes of x to the power i; room stays for one more column. */
        private void setImages(Thing m, int how) {
            int mark = algebra.mark();
            Poly power = algebra.lend();
            Poly image = algebra.lend();
            linear.begin(HIGHEST + 1, SOUGHT + 1);
            for (int i = 0; i < SOUGHT; i++) {
                power.setPower(i);
                apply(m, how, power, image);
                linear.setColumn(i, image);
            }
            algebra.release(mark);
        }

        int openPowers(Thing m, int how) {
            setImages(m, how);
            linear.eliminate();
            int open = 0;
            for (int i = 0; i < SOUGHT; i++) {
                if (linear.isFree(i)) open++;
            }
            return open;
        }

        /** Answer k of the rule whose open powers were counted last. */
        void setAnswer(int k, Poly out) {
            int open = -1;
            int left = k;
            while (left >= 0 && open < SOUGHT - 1) {
                open++;
                if (linear.isFree(open)) left--;
            }
            linear.cancel(open);
            out.setRow(linear.weights, 0, SOUGHT);
        }

        Thing meetWith(Thing m, int how, Poly f, Thing out) {
            setImages(m, how);
            linear.setColumn(SOUGHT, f);
            return solution(out);
        }

        /** The polynomial whose images come to the last column, if there is one. */
        private Thing solution(Thing out) {
            linear.eliminate();
            linear.weigh(SOUGHT);
            out.top.setRow(linear.weights, 0, SOUGHT);
            out.bottom.setNumber(1);
            out.fault = linear.isFree(SOUGHT) ? FINE : NONE;
            return out;
        }

        private void setShifted(Poly f, int by, Poly out) {
            out.setCopy(f);
            out.shift(by);
        }

        Thing makeBySteps(Thing m, Thing f, Thing out) {
            int mark = algebra.mark();
            Poly top = algebra.lend();
            Poly bottom = algebra.lend();
            Poly term = algebra.lend();
            Poly shifted = algebra.lend();
            bottom.setNumber(1);
            for (int k = 0; k < m.columns; k++) {
                term.setCopy(m.entryAt(0, k));
                for (int i = 0; i < m.columns; i++) {
                    setShifted(i == k ? f.top : f.bottom, i, shifted);
                    algebra.multiply(term, shifted);
                }
                top.setSum(top, term, 1);
                setShifted(f.bottom, k, shifted);
                algebra.multiply(bottom, shifted);
            }
            algebra.settle(top, bottom, out);
            algebra.release(mark);
            return out;
        }

        Thing makeBySlopes(Thing m, Thing f, Thing out) {
            int mark = algebra.mark();
            Poly top = algebra.lend();
            Poly bottom = algebra.lend();
            Poly slope = algebra.lend();
            Poly term = algebra.lend();
            slope.setCopy(f.top);
            bottom.setCopy(f.bottom);
            for (int k = 0; k < m.columns; k++) {
                if (k > 0) {
                    algebra.setSlopeTop(slope, f.bottom, k, term);
                    slope.setCopy(term);
                    algebra.multiply(top, f.bottom);
                    algebra.multiply(bottom, f.bottom);
                }
                term.setProduct(m.entryAt(0, k), slope);
                top.setSum(top, term, 1);
            }
            algebra.settle(top, bottom, out);
            algebra.release(mark);
            return out;
        }

        Thing fitTo(Thing m, Thing f, Thing out) {
            int mark = algebra.mark();
            Poly top = algebra.lend();
            Poly bottom = algebra.lend();
            Poly term = algebra.lend();
            Poly shifted = algebra.lend();
            bottom.setNumber(1);
            for (int k = 0; k < m.columns; k++) {
                term.setCopy(m.entryAt(0, k));
                for (int i = 0; i < m.columns - 1; i++) {
                    setShifted(i < k ? f.top : f.bottom, i, shifted);
                    algebra.multiply(term, shifted);
                }
                top.setSum(top, term, 1);
                if (k > 0) {
                    setShifted(f.bottom, k - 1, shifted);
                    algebra.multiply(bottom, shifted);
                }
            }
            algebra.settle(top, bottom, out);
            algebra.release(mark);
            return out;
        }

        /** The rule by steps for the numbers of a series of what a rule by slopes says of it. */
        Thing stepsOf(Thing m) {
            int least = m.columns;
            int greatest = -HIGHEST_ENTRY - 1;
            for (int i = 0; i < m.columns; i++) {
                for (int j = 0; j <= HIGHEST_ENTRY; j++) {
                    if (m.entryAt(0, i).coefficient(j) != 0) {
                        least = Math.min(least, i - j);
                        greatest = Math.max(greatest, i - j);
                    }
                }
            }
            int columns = greatest - least + 1;
            boolean tooGreat = columns < 1 || columns > 4;
            Thing steps = new Thing(1, tooGreat ? 1 : columns, new Poly[tooGreat ? 1 : columns]);
            if (tooGreat) steps.fault = TOO_GREAT;
            for (int k = 0; k < columns && !tooGreat; k++) steps.setEntry(0, k, step(m, least + k, k));
            return steps;
        }

        private Poly step(Thing m, int difference, int k) {
            int mark = algebra.mark();
            Poly sum = algebra.lend();
            Poly falling = algebra.lend();
            Poly factor = algebra.lend();
            falling.setNumber(1);
            for (int i = 0; i < m.columns; i++) {
                sum.setSum(sum, falling, m.entryAt(0, i).coefficient(i - difference));
                factor.setPower(1);
                factor.shift(k - i);
                algebra.multiply(falling, factor);
            }
            Poly kept = sum.kept();
            algebra.release(mark);
            return kept;
        }

        /** As the document tells it; with d of a degree above 60 no polynomial sought comes to it. */
        Thing close(Thing f, Thing out) {
            int mark = algebra.mark();
            Poly a = algebra.lend();
            Poly b = algebra.lend();
            Poly d = algebra.lend();
            Poly common = algebra.lend();
            Poly shifted = algebra.lend();
            int most = HIGHEST + HIGHEST_SOUGHT;
            a.setCopy(f.top);
            b.setCopy(f.bottom);
            d.setNumber(1);
            for (int h = 0; h <= 20 && d.degree <= most; h++) {
                setShifted(b, h, shifted);
                algebra.setCommon(a, shifted, common);
                algebra.setDivided(a, common, true, a);
                setShifted(common, -h, shifted);
                algebra.setDivided(b, shifted, true, b);
                for (int i = 1; i <= h && d.degree <= most; i++) {
                    setShifted(common, -i, shifted);
                    algebra.multiply(d, shifted);
                }
            }
            b.shift(-1);
            out.fault = NONE;
            if (d.degree <= most && solveSum(a, b, d, out).fault == FINE) {
                algebra.multiply(b, out.top);
                algebra.settle(b, d, out);
            }
            algebra.release(mark);
            return out;
        }

        /** The q for which a times q with x + 1 in place of x, less b times q, is d. */
        private Thing solveSum(Poly a, Poly b, Poly d, Thing out) {
            int mark = algebra.mark();
            Poly power = algebra.lend();
            Poly left = algebra.lend();
            Poly right = algebra.lend();
            linear.begin(HIGHEST + SOUGHT, SOUGHT + 1);
            for (int i = 0; i < SOUGHT; i++) {
                power.setPower(i);
                right.setProduct(b, power);
                power.shift(1);
                left.setProduct(a, power);
                left.setSum(left, right, PRIME - 1);
                linear.setColumn(i, left);
            }
            linear.setColumn(SOUGHT, d);
            algebra.release(mark);
            return solution(out);
        }

        /** All bottoms that come into question give the same fraction: one is tried. */
        Thing guessFraction(int[] s, Thing out) {
            linear.begin(13, 13);
            for (int n = 12; n < NUMBERS; n++) {
                for (int k = 0; k <= 12; k++) linear.set(n - 12, k, s[n - k]);
            }
            linear.eliminate();
            int free = linear.firstFree();
            out.fault = NONE;
            if (free > 12) return out;
            int mark = algebra.mark();
            Poly top = algebra.lend();
            Poly bottom = algebra.lend();
            linear.cancel(free);
            bottom.setRow(linear.weights, 0, 13);
            top.setRow(Series.product(s, Series.numbersOf(bottom)), 0, 12);
            algebra.settle(top, bottom, out);
            algebra.release(mark);
            boolean found = out.bottom.coefficient(0) != 0 && Series.areSame(Series.ofFraction(out), s);
            if (!found) out.fault = NONE;
            return out;
        }

        /** The columns stand with the numbers that are to be 0 last: the first free one is the row's. */
        Thing ruleOf(int[] s, int r, int d) {
            int width = d + 1;
            linear.begin(NUMBERS - r, (r + 1) * width);
            for (int n = 0; n < NUMBERS - r; n++) {
                for (int i = 0; i <= r; i++) {
                    int term = s[n + i];
                    for (int j = 0; j <= d; j++) {
                        linear.set(n, i * width + j, term);
                        term = term * n % PRIME;
                    }
                }
            }
            linear.eliminate();
            int free = linear.firstFree();
            if (free >= (r + 1) * width) return null;
            linear.cancel(free);
            int columns = free / width + 1;
            Thing found = new Thing(1, columns, new Poly[columns]);
            int mark = algebra.mark();
            Poly p = algebra.lend();
            for (int i = 0; i < columns; i++) {
                p.setRow(linear.weights, i * width, width);
                found.setEntry(0, i, p.kept());
            }
            algebra.release(mark);
            return found;
        }
    }

    /** Series: rows of NUMBERS numbers. */
    private static final class Series {
        private Series() {
        }

        static int[] numbersOf(Poly p) {
            int[] s = new int[NUMBERS];
            for (int n = 0; n < NUMBERS; n++) s[n] = p.coefficient(n);
            return s;
        }

        static int[] ofFraction(Thing f) {
            return quotient(numbersOf(f.top), numbersOf(f.bottom));
        }

        static int[] plus(int[] a, int[] b, int factor) {
            int[] s = new int[NUMBERS];
            for (int n = 0; n < NUMBERS; n++) s[n] = (a[n] + factor * b[n]) % PRIME;
            return s;
        }

        static int[] product(int[] a, int[] b) {
            int[] s = new int[NUMBERS];
            for (int n = 0; n < NUMBERS; n++) {
                long all = 0;
                for (int k = 0; k <= n; k++) all += a[k] * b[n - k];
                s[n] = (int) (all % PRIME);
            }
            return s;
        }

        /** b isn't 0 at power 0. */
        static int[] quotient(int[] a, int[] b) {
            int[] s = new int[NUMBERS];
            int inverse = Poly.inverseOf(b[0]);
            for (int n = 0; n < NUMBERS; n++) {
                long all = 0;
                for (int k = 1; k <= n; k++) all += b[k] * s[n - k];
                s[n] = (a[n] + PRIME - (int) (all % PRIME)) % PRIME * inverse % PRIME;
            }
            return s;
        }

        static int[] slopeOf(int[] a) {
            int[] s = new int[NUMBERS];
            for (int n = 1; n < NUMBERS; n++) s[n - 1] = a[n] * n % PRIME;
            return s;
        }

        static int[] integralOf(int[] a) {
            int[] s = new int[NUMBERS];
            for (int n = 1; n < NUMBERS; n++) s[n] = a[n - 1] * Poly.inverseOf(n) % PRIME;
            return s;
        }

        /** a with b in place of x; b is 0 at power 0. */
        static int[] inserted(int[] a, int[] b) {
            int[] s = new int[NUMBERS];
            for (int n = NUMBERS - 1; n >= 0; n--) {
                s = product(s, b);
                s[0] = a[n];
            }
            return s;
        }

        /** e to the a, by its slope. */
        static int[] raisedFrom(int[] a) {
            int[] s = new int[NUMBERS];
            s[0] = 1;
            for (int n = 1; n < NUMBERS; n++) {
                long all = 0;
                for (int k = 1; k <= n; k++) all += a[k] * k % PRIME * s[n - k];
                s[n] = (int) (all % PRIME) * Poly.inverseOf(n) % PRIME;
            }
            return s;
        }

        /** By Lagrange: n times number n is that at n - 1 of x through a to the power n. */
        static int[] reversed(int[] a) {
            int[] s = new int[NUMBERS];
            int[] unit = new int[NUMBERS];
            unit[0] = 1;
            int[] lowered = Arrays.copyOfRange(a, 1, NUMBERS + 1);
            int[] factor = quotient(unit, lowered);
            int[] power = factor;
            for (int n = 1; n < NUMBERS; n++) {
                s[n] = power[n - 1] * Poly.inverseOf(n) % PRIME;
                power = product(power, factor);
            }
            return s;
        }

        /** -1 if v is no square; PRIME is 3 modulo 4, so a power is a root. */
        static int lesserRoot(int v) {
            int root = Poly.raised(v, (PRIME + 1) / 4);
            if (root * root % PRIME != v) return -1;
            return Math.min(root, PRIME - root);
        }

        static int[] rootFrom(int[] a, int first) {
            int[] s = new int[NUMBERS];
            s[0] = first;
            int inverse = Poly.inverseOf(2 * first % PRIME);
            for (int n = 1; n < NUMBERS; n++) {
                long all = 0;
                for (int k = 1; k < n; k++) all += s[k] * s[n - k];
                s[n] = (a[n] + PRIME - (int) (all % PRIME)) % PRIME * inverse % PRIME;
            }
            return s;
        }

        /** What a rule makes of a series by slopes. */
        static int[] madeBy(Thing m, int[] a) {
            int[] s = new int[NUMBERS];
            int[] slope = a;
            for (int k = 0; k < m.columns; k++) {
                s = plus(s, product(numbersOf(m.entryAt(0, k)), slope), 1);
                slope = slopeOf(slope);
            }
            return s;
        }

        /** What the first so many polynomials of a rule come to at a place n of a series. */
        private static int comesTo(Thing m, int polys, int[] s, int n) {
            int all = 0;
            for (int k = 0; k < polys && n + k < s.length; k++) {
                all = (all + m.entryAt(0, k).valueAt(n) * s[n + k]) % PRIME;
            }
            return all;
        }

        /** The last polynomial of the rule has no 0 at the places of a series. */
        static int[] unrolled(Thing m, int[] a) {
            int[] s = new int[NUMBERS];
            int order = m.columns - 1;
            for (int n = 0; n < order && n < NUMBERS; n++) s[n] = a[n];
            for (int n = 0; n + order < NUMBERS; n++) {
                int inverse = Poly.inverseOf(m.entryAt(0, order).valueAt(n));
                s[n + order] = (PRIME - comesTo(m, order, s, n)) % PRIME * inverse % PRIME;
            }
            return s;
        }

        static boolean obeying(Thing m, int[] s) {
            for (int n = 0; n + m.columns <= NUMBERS; n++) {
                if (comesTo(m, m.columns, s, n) != 0) return false;
            }
            return true;
        }

        static int leastPower(int[] s) {
            int n = 0;
            while (n < NUMBERS && s[n] == 0) n++;
            return n;
        }

        static boolean areSame(int[] a, int[] b) {
            for (int n = 0; n < NUMBERS; n++) {
                if (a[n] != b[n]) return false;
            }
            return true;
        }
    }

    /** Formulas: a node is its sort and, above that, its amount; nodes stand by their numbers. */
    private static final class Trees {
        static final int DIGITS = 0;
        static final int LETTER = 1;
        static final int SUM = 2;
        static final int DIFFERENCE = 3;
        static final int PRODUCT = 4;
        static final int QUOTIENT = 5;
        static final int LESS = 6;
        static final int POWER = 7;
        /** What is written of a fraction has at most 401 nodes, what a law makes at most 402. */
        private static final int ROOM = 512;

        final int[] nodes = new int[ROOM];
        int length;
        private final int[] sizes = new int[ROOM];
        private final int[] starts = new int[ROOM];
        private int begun;
        private final int[] piece = new int[ROOM];
        private int pieceLength;
        /** A fraction comes to at most 907 bytes, a formula to at most 1000. */
        final int[] shown = new int[4 * ROOM];
        int shownLength;
        private final int[] waiting = new int[4 * ROOM];
        private int waits;
        final int[] rowNodes = new int[MOST_NODES];
        final int[] rowLaws = new int[MOST_NODES];
        int rowCount;

        // ---- building: parts stand one behind the other, a node comes ahead of its parts

        void begin() {
            length = 0;
            begun = 0;
        }

        static int code(int sort, int amount) {
            return amount << 3 | sort;
        }

        void leaf(int code) {
            if (begun >= ROOM || length >= ROOM) return;
            starts[begun] = length;
            begun++;
            nodes[length] = code;
            length++;
        }

        void wrap(int code) {
            if (begun < 1 || length >= ROOM) return;
            int start = starts[begun - 1];
            System.arraycopy(nodes, start, nodes, start + 1, length - start);
            nodes[start] = code;
            length++;
        }

        void pair(int sort) {
            if (begun < 2) return;
            begun--;
            wrap(sort);
        }

        int[] kept() {
            return Arrays.copyOf(nodes, length);
        }

        // ---- looking

        void load(int[] codes) {
            length = codes.length < ROOM ? codes.length : ROOM;
            System.arraycopy(codes, 0, nodes, 0, length);
            measure();
        }

        private void measure() {
            for (int n = length - 1; n >= 0; n--) {
                int size = 1;
                if (sort(n) > LETTER) size += sizeOf(n + 1);
                if (isPair(n)) size += sizeOf(n + size);
                sizes[n] = size;
            }
        }

        private int sizeOf(int n) {
            return n < 0 || n >= length ? 0 : sizes[n];
        }

        int sort(int n) {
            return n < 0 || n >= length ? DIGITS : nodes[n] & 7;
        }

        int amount(int n) {
            return n < 0 || n >= length ? 0 : nodes[n] >> 3;
        }

        private boolean isPair(int n) {
            return sort(n) >= SUM && sort(n) <= QUOTIENT;
        }

        private boolean isNumber(int n) {
            return sort(n) == DIGITS;
        }

        private boolean isNumber(int n, int v) {
            return sort(n) == DIGITS && amount(n) == v;
        }

        /** -1 without one, as the second part. */
        int first(int n) {
            return sort(n) > LETTER ? n + 1 : -1;
        }

        int second(int n) {
            int sort = sort(n);
            return sort >= SUM && sort <= QUOTIENT ? n + 1 + sizeOf(n + 1) : -1;
        }

        /** The last node in it. */
        int end(int n) {
            return n + sizeOf(n) - 1;
        }

        private boolean areSame(int a, int b) {
            int size = sizeOf(a);
            if (size != sizeOf(b)) return false;
            for (int i = 0; i < size; i++) {
                if (nodes[a + i] != nodes[b + i]) return false;
            }
            return true;
        }

        // ---- changing

        private boolean lay(int code) {
            if (pieceLength < ROOM) {
                piece[pieceLength] = code;
                pieceLength++;
            }
            return true;
        }

        private boolean layTree(int n) {
            for (int i = 0; i < sizeOf(n); i++) lay(nodes[n + i]);
            return true;
        }

        private boolean layPair(int sort, int a, int b) {
            lay(sort);
            layTree(a);
            return layTree(b);
        }

        /** Whether a law fits at a node; if it does, the piece is what comes there. */
        boolean fits(int n, int law) {
            pieceLength = 0;
            switch (law) {
                case 0: return fitsTurning(n);
                case 1: return fitsRightward(n);
                case 2: return fitsLeftward(n);
                case 3: return fitsSpreading(n);
                case 4: return fitsGathering(n);
                case 5: return sort(n) == DIFFERENCE && layLess(n);
                case 6: return fitsTakingLess(n);
                case 7: return sort(n) == LESS && sort(n + 1) == LESS && layTree(n + 2);
                case 8: return fitsNothing(n);
                case 9: return fitsUnrolling(n);
                case 10: return fitsNumbers(n);
                case 11: return fitsQuotients(n);
                default: return false;
            }
        }

        private boolean fitsTurning(int n) {
            return (sort(n) == SUM || sort(n) == PRODUCT) && layPair(sort(n), second(n), first(n));
        }

        private boolean fitsRightward(int n) {
            int sort = sort(n);
            if (sort != SUM && sort != PRODUCT || sort(n + 1) != sort) return false;
            lay(sort);
            layTree(n + 2);
            return layPair(sort, second(n + 1), second(n));
        }

        private boolean fitsLeftward(int n) {
            int sort = sort(n);
            int right = second(n);
            if (sort != SUM && sort != PRODUCT || sort(right) != sort) return false;
            lay(sort);
            layPair(sort, first(n), first(right));
            return layTree(second(right));
        }

        private boolean fitsSpreading(int n) {
            int right = second(n);
            int sort = sort(right);
            if (sort(n) != PRODUCT || sort != SUM && sort != DIFFERENCE) return false;
            lay(sort);
            layPair(PRODUCT, first(n), first(right));
            return layPair(PRODUCT, first(n), second(right));
        }

        private boolean fitsGathering(int n) {
            int sort = sort(n);
            int left = first(n);
            int right = second(n);
            if (sort != SUM && sort != DIFFERENCE) return false;
            if (sort(left) != PRODUCT || sort(right) != PRODUCT || !areSame(left + 1, right + 1)) return false;
            lay(PRODUCT);
            layTree(left + 1);
            return layPair(sort, second(left), second(right));
        }

        private boolean layLess(int n) {
            lay(SUM);
            layTree(first(n));
            lay(LESS);
            return layTree(second(n));
        }

        private boolean fitsTakingLess(int n) {
            int right = second(n);
            return sort(n) == SUM && sort(right) == LESS && layPair(DIFFERENCE, first(n), right + 1);
        }

        private boolean fitsNothing(int n) {
            int a = first(n);
            int b = second(n);
            switch (sort(n)) {
                case SUM:
                    if (isNumber(b, 0)) return layTree(a);
                    return isNumber(a, 0) && layTree(b);
                case DIFFERENCE:
                    if (isNumber(b, 0)) return layTree(a);
                    return isNumber(a, 0) && lay(LESS) && layTree(b);
                case PRODUCT:
                    if (isNumber(b, 1)) return layTree(a);
                    return isNumber(a, 1) && layTree(b);
                case QUOTIENT:
                    return isNumber(b, 1) && layTree(a);
                case POWER:
                    return amount(n) == 1 && layTree(a);
                default:
                    return false;
            }
        }

        private boolean fitsUnrolling(int n) {
            int power = amount(n);
            if (sort(n) != POWER || power == 1) return false;
            if (power == 0) return lay(code(DIGITS, 1));
            lay(PRODUCT);
            layTree(n + 1);
            lay(code(POWER, power - 1));
            return layTree(n + 1);
        }

        private boolean fitsNumbers(int n) {
            int sort = sort(n);
            if (sort <= LETTER || !isNumber(n + 1)) return false;
            int a = amount(n + 1);
            if (sort == LESS) return lay(code(DIGITS, (PRIME - a) % PRIME));
            if (sort == POWER) return lay(code(DIGITS, Poly.raised(a, amount(n))));
            if (!isNumber(second(n))) return false;
            int b = amount(second(n));
            if (sort == SUM) return lay(code(DIGITS, (a + b) % PRIME));
            if (sort == DIFFERENCE) return lay(code(DIGITS, (a + PRIME - b) % PRIME));
            if (sort == PRODUCT) return lay(code(DIGITS, a * b % PRIME));
            return b != 0 && lay(code(DIGITS, a * Poly.inverseOf(b) % PRIME));
        }

        private boolean fitsQuotients(int n) {
            int sort = sort(n);
            if (sort != PRODUCT && sort != QUOTIENT || sort(n + 1) != QUOTIENT) return false;
            lay(QUOTIENT);
            if (sort == PRODUCT) {
                layPair(PRODUCT, n + 2, second(n));
                return layTree(second(n + 1));
            }
            layTree(n + 2);
            return layPair(PRODUCT, second(n + 1), second(n));
        }

        /** Puts the piece in place of a node with all in it; what is too long is cut, but stays too great. */
        void replace(int n) {
            int behind = n + sizeOf(n);
            int tail = Math.min(length - behind, ROOM - n);
            int room = Math.min(pieceLength, ROOM - n - tail);
            if (n < 0 || tail < 0 || room < 0) return;
            System.arraycopy(nodes, behind, nodes, n + room, tail);
            System.arraycopy(piece, 0, nodes, n, room);
            length = n + room + tail;
            measure();
        }

        void simplify(int[] codes) {
            load(codes);
            rowCount = 0;
            for (int turn = 0; turn < MOST_NODES; turn++) {
                if (!simplifyOnce()) break;
            }
        }

        private boolean simplifyOnce() {
            for (int n = length - 1; n >= 0; n--) {
                int law = fits(n, 7) ? 7 : fits(n, 8) ? 8 : fits(n, 10) ? 10 : 0;
                if (law != 0 && rowCount < MOST_NODES) {
                    rowNodes[rowCount] = n;
                    rowLaws[rowCount] = law;
                    rowCount++;
                    replace(n);
                    return true;
                }
            }
            return false;
        }

        // ---- showing

        private void show(int b) {
            if (shownLength >= shown.length) return;
            shown[shownLength] = b;
            shownLength++;
        }

        private void showNumber(int v) {
            int scale = 1;
            while (scale <= v / 10) scale *= 10;
            for (int left = scale; left > 0; left /= 10) show('0' + v / left % 10);
        }

        void showFraction(Thing f) {
            shownLength = 0;
            if (f.isWhole()) {
                showPoly(f.top);
                return;
            }
            show('(');
            showPoly(f.top);
            show(')');
            show('/');
            show('(');
            showPoly(f.bottom);
            show(')');
        }

        private void showPoly(Poly p) {
            if (p.degree < 0) show('0');
            for (int power = p.degree; power >= 0; power--) {
                int v = p.coefficient(power);
                if (v == 0) continue;
                if (power < p.degree) show('+');
                if (v != 1 || power == 0) showNumber(v);
                if (v != 1 && power > 0) show('*');
                if (power > 0) show('x');
                if (power > 1) {
                    show('^');
                    showNumber(power);
                }
            }
        }

        /** What waits is a node, doubled, and 1 more with brackets around it, or less a byte. */
        void showTree(int[] codes) {
            load(codes);
            shownLength = 0;
            waits = 0;
            await(0);
            for (int turn = 0; turn < 8 * ROOM && waits > 0; turn++) {
                waits--;
                int next = waiting[waits];
                if (next < 0) {
                    show(-next);
                } else {
                    if ((next & 1) == 1) {
                        show('(');
                        await(-')');
                    }
                    showNode(next >> 1);
                }
            }
        }

        private void await(int what) {
            if (waits >= waiting.length) return;
            waiting[waits] = what;
            waits++;
        }

        private void showNode(int n) {
            int sort = sort(n);
            if (sort == DIGITS) {
                showNumber(amount(n));
            } else if (sort == LETTER) {
                show('x');
            } else if (sort == LESS) {
                show('-');
                awaitPart(n, n + 1);
            } else if (sort == POWER) {
                await(-'0' - amount(n) % 10);
                if (amount(n) > 9) await(-'0' - amount(n) / 10 % 10);
                await(-'^');
                awaitPart(n, n + 1);
            } else {
                awaitPart(n, second(n));
                await(-signOf(sort));
                awaitPart(n, n + 1);
            }
        }

        static int signOf(int sort) {
            if (sort == SUM) return '+';
            if (sort == DIFFERENCE) return '-';
            return sort == PRODUCT ? '*' : '/';
        }

        static int sortOf(int sign) {
            if (sign == '+') return SUM;
            if (sign == '-') return DIFFERENCE;
            return sign == '*' ? PRODUCT : QUOTIENT;
        }

        private void awaitPart(int n, int part) {
            await(2 * part + (isBracketed(n, part) ? 1 : 0));
        }

        private boolean isBracketed(int n, int part) {
            int sort = sort(part);
            boolean isSum = sort == SUM || sort == DIFFERENCE || sort == LESS;
            boolean isProduct = sort == PRODUCT || sort == QUOTIENT;
            boolean isSecond = part == second(n);
            switch (sort(n)) {
                case SUM:
                case DIFFERENCE:
                    return isSecond && isSum;
                case PRODUCT:
                case QUOTIENT:
                    return isSum || isSecond && isProduct;
                case LESS:
                    return isSum;
                default:
                    return sort > LETTER;
            }
        }
    }

    /** Reads a text byte by byte, to fractions on a pile or to a tree. */
    private static final class Reader {
        static final int HANDLES = 1;
        static final int LETTERS = 2;
        static final int CLAIM = 4;
        static final int TREE = 8;
        private static final int END = -1;
        /** What comes next: a sum, an atom, perhaps a ^, the end of a power, that of a term. */
        private static final int START = 0;
        private static final int ATOM = 1;
        private static final int RAISABLE = 2;
        private static final int RAISED = 3;
        private static final int TERM = 4;

        private final Algebra algebra;
        private final Trees trees;
        private final Thing[] things;
        final Thing[] values;
        private int held;
        private final int[] lessAt = new int[MOST_OPEN + 1];
        private final int[] sumAt = new int[MOST_OPEN + 1];
        private final int[] productAt = new int[MOST_OPEN + 1];
        private final int[] waiting = new int[MOST_NODES];
        private int[] text;
        private int length;
        private int mode;
        private int thingCount;
        private int here;
        private int open;
        private int state;
        private boolean equalsMet;
        private boolean over;
        int fault;
        int faultPlace;

        Reader(Algebra algebra, Trees trees, Thing[] things, int most) {
            this.algebra = algebra;
            this.trees = trees;
            this.things = things;
            values = new Thing[most < 2 ? 2 : most];
            for (int i = 0; i < values.length; i++) values[i] = new Thing(HIGHEST + 1);
        }

        void begin(int[] text, int length, int mode, int thingCount) {
            this.text = text;
            this.length = length;
            this.mode = mode;
            this.thingCount = thingCount;
            held = 0;
            here = 0;
            open = 0;
            equalsMet = false;
            over = false;
            fault = FINE;
            faultPlace = -1;
            if (may(TREE)) trees.begin();
            startSum();
        }

        /** Goes on to the end (-1), or to the letter of a cell, that give() is due for. */
        int run() {
            int asked = -1;
            for (int turn = 0; turn < 8 * length + 16 && !over && asked < 0; turn++) {
                switch (state) {
                    case START:
                    case ATOM:
                        asked = atom();
                        break;
                    case RAISABLE:
                        raise();
                        break;
                    case RAISED:
                        pair(productAt);
                        if (!over) afterPower();
                        break;
                    default:
                        lessen();
                        pair(sumAt);
                        if (!over) afterTerm();
                        break;
                }
            }
            return asked;
        }

        private boolean may(int what) {
            return (mode & what) != 0;
        }

        private int look() {
            return here >= 0 && here < length && here < text.length ? text[here] : END;
        }

        private boolean isDigit() {
            return look() >= '0' && look() <= '9';
        }

        private void fail(int what, int place) {
            fault = what;
            faultPlace = place;
            over = true;
        }

        private void step(int next) {
            here++;
            state = next;
        }

        private void startSum() {
            lessAt[open] = -1;
            sumAt[open] = -1;
            productAt[open] = -1;
            state = START;
        }

        /** Answers a cell whose letter stands here, else -1. */
        private int atom() {
            int b = look();
            if (isDigit()) {
                pushNumber(digits(6));
            } else if (b == 'x') {
                pushLetter();
                step(RAISABLE);
            } else if (b == '#' && may(HANDLES)) {
                handle();
            } else if (b == '(') {
                bracket();
            } else if (b == '-' && state == START) {
                lessAt[open] = here;
                step(ATOM);
            } else if (b >= 'A' && b < 'A' + CELLS && may(LETTERS)) {
                return b - 'A';
            } else {
                fail(BAD_SIGN, here);
            }
            return -1;
        }

        private void bracket() {
            if (open >= MOST_OPEN) {
                fail(TOO_MANY_OPEN, here);
                return;
            }
            open++;
            here++;
            startSum();
        }

        /** What digits stand for; -1 if none stand here, or too many. */
        private int digits(int most) {
            if (!isDigit()) {
                fail(BAD_SIGN, here);
                return -1;
            }
            int v = 0;
            for (int i = 0; i < most && isDigit(); i++) {
                v = v * 10 + look() - '0';
                here++;
            }
            if (!isDigit()) return v;
            fail(EXTRA_DIGIT, here);
            return -1;
        }

        private Thing push() {
            if (held < values.length) held++;
            Thing t = values[held - 1];
            t.fault = FINE;
            t.bottom.setNumber(1);
            return t;
        }

        private Thing top() {
            return values[held < 1 ? 0 : held - 1];
        }

        private void pushNumber(int v) {
            if (v < 0) return;
            if (may(TREE)) trees.leaf(Trees.code(Trees.DIGITS, v % PRIME));
            else push().top.setNumber(v % PRIME);
            state = RAISABLE;
        }

        private void pushLetter() {
            if (may(TREE)) trees.leaf(Trees.LETTER);
            else push().top.setPower(1);
        }

        private void handle() {
            int place = here;
            here++;
            int h = digits(3);
            if (h < 0) return;
            Thing t = h < thingCount && h < things.length ? things[h] : null;
            if (t == null || t.kind != FRACTION) {
                fail(NO_HANDLE, place);
                return;
            }
            push().setFraction(t.top, t.bottom);
            state = RAISABLE;
        }

        /** Tells the fraction of the cell whose letter was met; null if it has none. */
        void give(Thing t) {
            if (t == null) {
                fail(NO_FRACTION, here);
                return;
            }
            push().setFraction(t.top, t.bottom);
            step(RAISABLE);
        }

        private void raise() {
            state = RAISED;
            if (look() != '^') return;
            int place = here;
            here++;
            int n = digits(2);
            if (n < 0) return;
            if (may(TREE)) trees.wrap(Trees.code(Trees.POWER, n));
            else if (algebra.raise(top(), n, top()).fault != FINE) fail(TOO_GREAT, place);
        }

        /** Works the sign that stands ahead of what is through, if there is one. */
        private void pair(int[] signs) {
            int place = signs[open];
            if (place < 0 || place >= text.length) return;
            signs[open] = -1;
            int sign = text[place];
            if (may(TREE)) {
                trees.pair(Trees.sortOf(sign));
                return;
            }
            if (held < 2) return;
            held--;
            Thing t = algebra.join(sign, values[held - 1], values[held], values[held - 1]);
            if (t.fault != FINE) fail(t.fault, place);
        }

        private void lessen() {
            if (lessAt[open] < 0) return;
            lessAt[open] = -1;
            if (may(TREE)) trees.wrap(Trees.LESS);
            else top().top.scale(PRIME - 1);
        }

        private void afterPower() {
            int b = look();
            if (b == '*' || b == '/') {
                productAt[open] = here;
                step(ATOM);
            } else {
                state = TERM;
            }
        }

        private void afterTerm() {
            int b = look();
            if (b == '+' || b == '-') {
                sumAt[open] = here;
                step(ATOM);
            } else if (b == ')' && open > 0) {
                open--;
                step(RAISABLE);
            } else if (b == '=' && open == 0 && may(CLAIM) && !equalsMet) {
                equalsMet = true;
                here++;
                startSum();
            } else if (b == END && open == 0 && equalsMet == may(CLAIM)) {
                over = true;
            } else {
                fail(BAD_SIGN, here);
            }
        }

        /** A part is worked as soon as its last node is met; what failed is answered. */
        Thing worthOf(int[] codes) {
            trees.load(codes);
            mode = 0;
            held = 0;
            int waits = 0;
            for (int i = 0; i < trees.length && i < waiting.length; i++) {
                waiting[waits] = i;
                waits++;
                while (waits > 0 && trees.end(waiting[waits - 1]) == i) {
                    waits--;
                    Thing t = workNode(waiting[waits]);
                    if (t.fault != FINE) return t;
                }
            }
            return top();
        }

        private Thing workNode(int n) {
            int sort = trees.sort(n);
            if (sort == Trees.DIGITS) {
                push().top.setNumber(trees.amount(n));
            } else if (sort == Trees.LETTER) {
                push().top.setPower(1);
            } else if (sort == Trees.LESS) {
                top().top.scale(PRIME - 1);
            } else if (sort == Trees.POWER) {
                return algebra.raise(top(), trees.amount(n), top());
            } else if (held > 1) {
                held--;
                return algebra.join(Trees.signOf(sort), values[held - 1], values[held], values[held - 1]);
            }
            return top();
        }
    }

    /** The sheet: cells are told by numbers, several of them by masks. */
    private static final class Sheet {
        private final Reader reader;
        private final int[][] texts = new int[CELLS][MOST_CELL_TEXT];
        private final int[] lengths = new int[CELLS];
        private final int[] named = new int[CELLS];
        /** All on which a cell hangs. */
        final int[] hangs = new int[CELLS];
        private final Thing[] fractions = new Thing[CELLS];
        private final int[] faults = new int[CELLS];
        private final int[] places = new int[CELLS];
        /** Those worked since a text that counts for them was entered. */
        private int fresh;
        int worked;

        Sheet(Reader reader) {
            this.reader = reader;
            for (int i = 0; i < CELLS; i++) fractions[i] = new Thing(HIGHEST + 1);
        }

        void enterText(int c, int[] text, int length) {
            named[c] = 0;
            lengths[c] = Math.min(length, MOST_CELL_TEXT);
            for (int i = 0; i < lengths[c] && i < text.length; i++) {
                int b = text[i];
                texts[c][i] = b;
                if (b >= 'A' && b < 'A' + CELLS) named[c] |= 1 << b - 'A';
            }
            for (int i = 0; i < CELLS; i++) {
                findHanging(i);
                if (i == c || (hangs[i] >> c & 1) == 1) fresh &= ~(1 << i);
            }
        }

        private void findHanging(int c) {
            int all = named[c];
            for (int turn = 0; turn < CELLS; turn++) {
                for (int i = 0; i < CELLS; i++) {
                    if ((all >> i & 1) == 1) all |= named[i];
                }
            }
            hangs[c] = all;
        }

        private boolean isInCircle(int c) {
            return (hangs[c] >> c & 1) == 1;
        }

        private boolean isDue(int c) {
            return lengths[c] > 0 && (fresh >> c & 1) == 0 && !isInCircle(c);
        }

        /** Works what is due for a cell, and that. */
        void ask(int c) {
            int next = nextFor(c);
            for (int turn = 0; turn < CELLS && next >= 0; turn++) {
                worked++;
                fresh |= 1 << next;
                reader.begin(texts[next], lengths[next], Reader.LETTERS, 0);
                int met = reader.run();
                for (int i = 0; i < MOST_CELL_TEXT && met >= 0; i++) {
                    reader.give(fractionOf(met));
                    met = reader.run();
                }
                faults[next] = reader.fault;
                places[next] = reader.faultPlace;
                Thing sum = reader.values[0];
                if (reader.fault == FINE) fractions[next].setFraction(sum.top, sum.bottom);
                next = nextFor(c);
            }
        }

        /** A cell that is due for one, or that itself, naming none that is due; -1 without. */
        private int nextFor(int c) {
            int next = isDue(c) ? c : -1;
            for (int turn = 0; turn < CELLS && next >= 0; turn++) {
                int ahead = dueNamedBy(next);
                if (ahead < 0) break;
                next = ahead;
            }
            return next;
        }

        private int dueNamedBy(int c) {
            for (int i = 0; i < CELLS; i++) {
                if ((named[c] >> i & 1) == 1 && isDue(i)) return i;
            }
            return -1;
        }

        /** 0 for an empty one, 1 for one that has a fraction, 2 for one with a fault. */
        int stateOf(int c) {
            if (lengths[c] == 0) return 0;
            return faultOf(c) == FINE ? 1 : 2;
        }

        int faultOf(int c) {
            if (lengths[c] == 0) return FINE;
            return isInCircle(c) ? IN_CIRCLE : faults[c];
        }

        int placeOf(int c) {
            if (lengths[c] == 0) return -1;
            return isInCircle(c) ? 0 : places[c];
        }

        /** Of a cell that was asked for; null if it has none. */
        Thing fractionOf(int c) {
            return stateOf(c) == 1 ? fractions[c] : null;
        }
    }
}
