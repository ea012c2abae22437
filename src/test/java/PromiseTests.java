import java.nio.charset.StandardCharsets;

/** Each promise of the document by itself: ordinary inputs, the edges that it names, wrong inputs. */
public final class PromiseTests {
    private static final Class<?> NO_INDEX = IndexOutOfBoundsException.class;
    private static final Class<?> NO_ARGUMENT = IllegalArgumentException.class;
    private static final Class<?> NO_QUOTIENT = ArithmeticException.class;
    private static final Class<?> NO_STATE = IllegalStateException.class;
    private static final int PRIME = 32003;

    private static int wrong;
    private static int checks;
    private static String promise = "";
    private static FormulaWorks w = new FormulaWorks();

    private interface Call {
        Object run();
    }

    public static void main(String[] args) {
        newObject();
        typeAndRead();
        faultsOfTexts();
        printedAndLetter();
        numbers();
        sumsAndDifferences();
        productsAndQuotients();
        powersAndSlopes();
        putAndValue();
        commonAndResultant();
        dividedAndCombined();
        leastAndFactors();
        factorAndOften();
        remainderAndPart();
        coreAndRest();
        logAndIntegral();
        closedAndTerm();
        sumAndSeries();
        exponentialAndLogarithm();
        reverseAndRoot();
        guessAndTake();
        matrixAndEntry();
        turnedAndDeterminant();
        rankAndInvariant();
        ownAndAdjoint();
        companionAndWithin();
        solvedAndMade();
        answersAndAnswer();
        meetAndUnroll();
        obeysAndFit();
        ruleAndRecur();
        formulaAndWritten();
        worthAndNodes();
        nodeAndChange();
        laws();
        simpleAndRows();
        rowAndClaim();
        enterAndCell();
        workedCells();
        getAndCircles();
        kindAndDegree();
        atAndSame();
        countAndClear();
        fullHouse();
        System.out.println(checks + " answers looked at, " + wrong + " wrong");
        if (wrong != 0) System.exit(1);
    }

    // ---- helpers

    private static void start(String name) {
        promise = name;
        w = new FormulaWorks();
    }

    private static void due(Object got, Object want) {
        checks++;
        if (got.equals(want)) return;
        wrong++;
        StackTraceElement at = Thread.currentThread().getStackTrace()[2];
        System.out.println(promise + ", line " + at.getLineNumber() + ": answered " + got + ", due is " + want);
    }

    private static void thrown(Class<?> want, Call call) {
        checks++;
        Object got;
        try {
            got = call.run();
        } catch (RuntimeException e) {
            if (e.getClass() == want && e.getMessage() == null) return;
            got = e;
        }
        wrong++;
        StackTraceElement at = Thread.currentThread().getStackTrace()[2];
        System.out.println(promise + ", line " + at.getLineNumber() + ": answered " + got + ", due is " + want);
    }

    private static int type(String text) {
        byte[] bytes = text.getBytes(StandardCharsets.ISO_8859_1);
        int length = w.type(0);
        for (int i = 0; i < bytes.length; i += 8) {
            long word = 0;
            for (int k = i; k < bytes.length && k < i + 8; k++) word = word << 8 | bytes[k] & 255;
            length = w.type(word);
        }
        return length;
    }

    private static int read(String text) {
        type(text);
        return w.read();
    }

    private static int formula(String text) {
        type(text);
        return w.formula();
    }

    private static boolean claim(String text) {
        type(text);
        return w.claim();
    }

    private static int enter(char cell, String text) {
        type(text);
        return w.enter(cell - 'A');
    }

    private static String shown(int f) {
        StringBuilder text = new StringBuilder();
        int length = w.printed(f);
        for (int i = 0; i < length; i++) text.append((char) w.letter(f, i));
        return text.toString();
    }

    private static String faultOf(String text) {
        return faultOf(text, () -> w.read());
    }

    private static String faultOfFormula(String text) {
        return faultOf(text, () -> w.formula());
    }

    private static String faultOfClaim(String text) {
        return faultOf(text, () -> w.claim());
    }

    private static String faultOf(String text, Call call) {
        type(text);
        try {
            call.run();
            return "none";
        } catch (IllegalArgumentException e) {
            return w.fault(0) + " at " + w.fault(1);
        }
    }

    private static String cell(char c) {
        return w.cell(c - 'A', 0) + " " + w.cell(c - 'A', 1) + " " + w.cell(c - 'A', 2) + " " + w.cell(c - 'A', 3);
    }

    private static int matrix(int rows, int columns, String... entries) {
        for (String entry : entries) w.take(read(entry));
        return w.matrix(rows, columns);
    }

    private static String entries(int m) {
        StringBuilder text = new StringBuilder();
        for (int i = 0; i < w.degree(m, 0); i++) {
            if (i > 0) text.append(" ; ");
            for (int j = 0; j < w.degree(m, 1); j++) {
                if (j > 0) text.append(" ");
                text.append(shown(w.entry(m, i, j)));
            }
        }
        return text.toString();
    }

    private static int series(String text) {
        return w.series(read(text));
    }

    private static String firstNumbers(int s, int count) {
        StringBuilder text = new StringBuilder();
        for (int i = 0; i < count; i++) text.append(i > 0 ? " " : "").append(w.at(s, 0, i));
        return text.toString();
    }

    private static int half(int times) {
        return times * 16002 % PRIME;
    }

    private static void fill() {
        while (w.count() < 150) w.number(1);
    }

    private static String repeated(String text, int times) {
        StringBuilder all = new StringBuilder();
        for (int i = 0; i < times; i++) all.append(text);
        return all.toString();
    }

    // ---- the promises

    private static void newObject() {
        start("promise 1");
        due(w.count(), 0);
        due(w.rows(), 0);
        due(w.worked(), 0);
        due(w.fault(0), 0);
        due(w.fault(1), -1);
        due(w.type(0), 0);
        thrown(NO_INDEX, () -> w.kind(0));
        due(cell('A'), "0 0 -1 0");
    }

    private static void typeAndRead() {
        start("promise 2");
        due(w.type(0x7800002B0031L), 3);
        due(shown(w.read()), "x+1");
        due(w.type(-1), 8);
        due(w.type(0), 8);
        thrown(NO_ARGUMENT, () -> w.read());
        due(w.type(0), 0);
        due(type(repeated("x", 197)), 197);
        due(w.type(0x78787878L), -1);
        due(w.type(0x787878L), 200);
        due(w.type(0x78), -1);
        due(w.type(0), 200);
        thrown(NO_ARGUMENT, () -> w.read());
        due(w.count(), 1);
        due(shown(read("-x^2*3+2/4-(x-1)^2")), "31999*x^2+2*x+" + (half(1) - 1));
        due(shown(read("x-x-1+2*3/6")), "0");
        due(shown(read("000007*x^07")), "7*x^7");
        due(shown(read("999999")), String.valueOf(999999 % PRIME));
        due(shown(read("0^0+0^1")), "1");
        due(shown(read("(x^2-1)/(2*x-2)")), half(1) + "*x+" + half(1));
        due(shown(read("#0*#000")), "x^2+2*x+1");
        fill();
        type("x+");
        thrown(NO_STATE, () -> w.read());
        due(w.fault(0), 0);
        w.clear();
        type("(x+");
        due(w.type(0), 3);
    }

    private static void faultsOfTexts() {
        start("promise 3");
        due(w.fault(2), -1);
        due(w.fault(-1), -1);
        due(faultOf(""), "1 at 0");
        due(faultOf("x y"), "1 at 1");
        due(faultOf("x^411"), "2 at 4");
        due(faultOf("x^41"), "5 at 1");
        due(faultOf("1234567"), "2 at 6");
        due(faultOf("#0"), "3 at 0");
        due(faultOf("1+#1234"), "2 at 6");
        due(faultOf("1/0"), "4 at 1");
        due(faultOf("1/0^2+)"), "4 at 1");
        due(faultOf("1/0^"), "1 at 4");
        due(faultOf("x^40*x+"), "5 at 4");
        due(faultOf("(x^40*x^40"), "5 at 5");
        due(faultOf("x^40*x^40x"), "5 at 4");
        due(faultOf("x^40*x^2^2"), "5 at 4");
        due(faultOf("x^40*x^"), "1 at 7");
        due(faultOf("x^40*(x"), "1 at 7");
        due(faultOf("x+1/x^40+1/(x+1)^20$"), "5 at 1");
        due(faultOf("1/x^40+1/(x+1)$"), "5 at 6");
        due(faultOf("--x"), "1 at 1");
        due(faultOf("x*-x"), "1 at 2");
        due(faultOf("(-x)+(-x)"), "none");
        due(w.fault(0), 0);
        due(w.fault(1), -1);
        due(faultOf(repeated("(", 20) + "x" + repeated(")", 20)), "none");
        due(faultOf(repeated("(", 21)), "6 at 20");
        due(faultOf(repeated("(", 20) + "x("), "1 at 21");
        due(faultOf("x=x"), "1 at 1");
        due(faultOf("A"), "1 at 0");
        due(faultOf("x\u00ff"), "1 at 1");
        due(faultOfFormula("x^99/0"), "none");
        due(faultOfFormula("#0"), "1 at 0");
        due(faultOfFormula("x^100"), "2 at 4");
        due(faultOfFormula(repeated("(", 21)), "6 at 20");
        due(faultOfClaim("x=x="), "1 at 3");
        type("x");
        w.enter(0);
        due(w.fault(0), 1);
        due(w.fault(1), 3);
        fill();
        type("1/0");
        thrown(NO_STATE, () -> w.read());
        thrown(NO_STATE, () -> w.formula());
        due(w.fault(0) + " at " + w.fault(1), "1 at 3");
    }

    private static void printedAndLetter() {
        start("promises 3 and 4");
        due(shown(read("x")), "x");
        due(shown(read("1")), "1");
        due(shown(read("-1")), "32002");
        due(shown(read("3*x^12+x^2-2*x+1")), "3*x^12+x^2+32001*x+1");
        due(shown(read("x^3-x^3")), "0");
        due(shown(read("1/x")), "(1)/(x)");
        due(shown(read("(x+1)/(x^2-2)")), "(x+1)/(x^2+32001)");
        int f = read("x^10");
        due(w.printed(f), 4);
        due(w.letter(f, -1), -1);
        due(w.letter(f, 4), -1);
        due(w.letter(f, 2), (int) '1');
        int s = w.series(f);
        thrown(NO_ARGUMENT, () -> w.printed(s));
        thrown(NO_ARGUMENT, () -> w.letter(s, 0));
        thrown(NO_INDEX, () -> w.printed(-1));
        thrown(NO_INDEX, () -> w.letter(w.count(), 0));
        int t = formula("-(x-1)*2/(3*x)");
        due(shown(t), "-(x-1)*2/(3*x)");
        due(w.letter(t, 0), (int) '-');
        due(w.letter(t, 14), -1);
    }

    private static void numbers() {
        start("promise 4");
        due(shown(w.number(5)), "5");
        due(shown(w.number(-1)), "32002");
        due(shown(w.number(PRIME)), "0");
        due(shown(w.number(Long.MIN_VALUE)), String.valueOf(Math.floorMod(Long.MIN_VALUE, (long) PRIME)));
        due(shown(w.number(Long.MAX_VALUE)), String.valueOf(Long.MAX_VALUE % PRIME));
        fill();
        thrown(NO_STATE, () -> w.number(0));
    }

    private static void sumsAndDifferences() {
        start("promise 5");
        int f = read("1/x");
        int g = read("1/(x+1)");
        due(shown(w.add(f, g)), "(2*x+1)/(x^2+x)");
        due(shown(w.less(f, g)), "(1)/(x^2+x)");
        due(shown(w.less(f, f)), "0");
        int a = series("1/(1-x)");
        int b = series("x^24");
        due(firstNumbers(w.add(a, a), 3), "2 2 2");
        due(w.at(w.less(b, a), 0, 24), 0);
        due(w.at(w.less(b, a), 0, 23), 32002);
        int m = matrix(1, 2, "x", "1");
        int n = matrix(2, 1, "x", "1");
        due(entries(w.add(m, m)), "2*x 2");
        due(entries(w.less(m, m)), "0 0");
        thrown(NO_ARGUMENT, () -> w.add(m, n));
        thrown(NO_ARGUMENT, () -> w.less(m, n));
        int narrow = matrix(1, 1, "x");
        thrown(NO_ARGUMENT, () -> w.add(m, narrow));
        thrown(NO_ARGUMENT, () -> w.less(narrow, n));
        thrown(NO_ARGUMENT, () -> w.add(f, a));
        thrown(NO_ARGUMENT, () -> w.add(a, m));
        int t = formula("x");
        thrown(NO_ARGUMENT, () -> w.add(t, t));
        thrown(NO_INDEX, () -> w.add(f, -1));
        thrown(NO_INDEX, () -> w.less(w.count(), a));
        int high = read("1/x^40");
        thrown(NO_STATE, () -> w.add(high, g));
        thrown(NO_STATE, () -> w.less(high, g));
        due(shown(w.add(high, read("x/x^40"))), "(x+1)/(x^40)");
    }

    private static void productsAndQuotients() {
        start("promise 6");
        int f = read("(x+1)/x");
        int g = read("x/(x+2)");
        due(shown(w.times(f, g)), "(x+1)/(x+2)");
        due(shown(w.over(f, g)), "(x^2+3*x+2)/(x^2)");
        int zero = w.number(0);
        thrown(NO_QUOTIENT, () -> w.over(f, zero));
        due(shown(w.over(zero, f)), "0");
        int high = read("x^40");
        thrown(NO_STATE, () -> w.times(high, high));
        due(w.degree(w.over(high, g), 0), 40);
        int part = read("1/(x+1)");
        thrown(NO_STATE, () -> w.over(high, part));
        due(shown(w.over(high, high)), "1");
        int a = series("1/(1-x)");
        int b = series("x/(1-x)");
        due(firstNumbers(w.times(a, a), 4), "1 2 3 4");
        due(firstNumbers(w.over(b, a), 4), "0 1 0 0");
        thrown(NO_QUOTIENT, () -> w.over(a, b));
        int m = matrix(2, 2, "x", "1", "0", "2");
        int n = matrix(2, 1, "x", "1");
        due(entries(w.times(m, n)), "x^2+1 ; 2");
        thrown(NO_ARGUMENT, () -> w.times(n, m));
        thrown(NO_ARGUMENT, () -> w.over(m, m));
        thrown(NO_ARGUMENT, () -> w.times(a, f));
        thrown(NO_INDEX, () -> w.times(m, 150));
        int tenth = matrix(1, 1, "x^10");
        int first = matrix(1, 1, "x");
        thrown(NO_STATE, () -> w.times(tenth, first));
        fill();
        thrown(NO_QUOTIENT, () -> w.over(f, zero));
        thrown(NO_STATE, () -> w.over(f, g));
        thrown(NO_QUOTIENT, () -> w.over(a, b));
    }

    private static void powersAndSlopes() {
        start("promise 7");
        int f = read("x/(x+1)");
        due(shown(w.power(f, 2)), "(x^2)/(x^2+2*x+1)");
        due(shown(w.power(f, 0)), "1");
        int zero = w.number(0);
        due(shown(w.power(zero, 0)), "1");
        due(shown(w.power(zero, 99)), "0");
        due(shown(w.power(w.number(2), 16)), String.valueOf(65536 % PRIME));
        due(w.degree(w.power(f, 40), 1), 40);
        thrown(NO_STATE, () -> w.power(f, 41));
        thrown(NO_ARGUMENT, () -> w.power(f, -1));
        thrown(NO_ARGUMENT, () -> w.power(f, 100));
        int s = series("1/(1-x)");
        thrown(NO_ARGUMENT, () -> w.power(s, 2));
        thrown(NO_INDEX, () -> w.power(w.count(), 2));
        due(shown(w.derive(f)), "(1)/(x^2+2*x+1)");
        due(shown(w.derive(read("x^40+3"))), "40*x^39");
        int slope = w.derive(s);
        due(firstNumbers(slope, 3), "1 2 3");
        due(w.at(slope, 0, 23), 24);
        due(w.at(slope, 0, 24), 0);
        int deep = read("1/(x^40+1)");
        thrown(NO_STATE, () -> w.derive(deep));
        int m = matrix(1, 1, "x");
        thrown(NO_ARGUMENT, () -> w.derive(m));
    }

    private static void putAndValue() {
        start("promise 8");
        int f = read("(x+1)/(x-1)");
        int g = read("1/x");
        due(shown(w.put(f, g)), "(32002*x+32002)/(x+32002)");
        int one = w.number(1);
        thrown(NO_QUOTIENT, () -> w.put(f, one));
        due(shown(w.put(f, w.number(3))), "2");
        int deep = read("x^9");
        int five = read("x^5/(x+1)");
        thrown(NO_STATE, () -> w.put(deep, five));
        due(w.degree(w.put(read("x^8"), five), 0), 40);
        int a = series("1/(1-x)");
        int b = series("x/(1-x)");
        due(firstNumbers(w.put(a, b), 5), "1 1 2 4 8");
        thrown(NO_ARGUMENT, () -> w.put(b, a));
        thrown(NO_ARGUMENT, () -> w.put(f, b));
        int m = matrix(1, 1, "x");
        thrown(NO_ARGUMENT, () -> w.put(m, m));
        thrown(NO_INDEX, () -> w.put(m, -1));
        due(w.value(f, 3), 2);
        due(w.value(f, 1), -1);
        due(w.value(f, PRIME + 1), -1);
        due(w.value(f, -1), 0);
        due(w.value(f, Long.MIN_VALUE) >= 0, true);
        thrown(NO_ARGUMENT, () -> w.value(a, 0));
        thrown(NO_INDEX, () -> w.value(150, 0));
        fill();
        thrown(NO_QUOTIENT, () -> w.put(f, one));
        thrown(NO_STATE, () -> w.put(f, g));
    }

    private static void commonAndResultant() {
        start("promise 9");
        int f = read("2*(x-1)*(x-2)");
        int g = read("3*(x-2)*(x-3)");
        int zero = w.number(0);
        due(shown(w.common(f, g)), "x+32001");
        due(shown(w.common(zero, g)), "x^2+31998*x+6");
        due(shown(w.common(w.number(7), zero)), "1");
        thrown(NO_ARGUMENT, () -> w.common(zero, zero));
        int part = read("1/x");
        thrown(NO_ARGUMENT, () -> w.common(part, f));
        thrown(NO_ARGUMENT, () -> w.common(f, part));
        thrown(NO_INDEX, () -> w.common(part, -1));
        due(w.resultant(f, g), 0);
        due(w.resultant(read("x-5"), f), 24);
        due(w.resultant(read("2*x-10"), read("x^3")), 1000);
        due(w.resultant(read("x^3"), read("2*x-10")), PRIME - 1000);
        int two = read("2*x^2+3*x+1");
        int three = read("5*x^3-x+7");
        due(w.resultant(two, three) + " " + w.resultant(three, two), "165 165");
        due(w.resultant(three, read("3*x^4+2*x-1")), 13029);
        due(w.resultant(w.number(3), f), 9);
        due(w.resultant(f, w.number(3)), 9);
        due(w.resultant(w.number(3), w.number(5)), 1);
        thrown(NO_ARGUMENT, () -> w.resultant(zero, f));
        thrown(NO_ARGUMENT, () -> w.resultant(f, zero));
        thrown(NO_ARGUMENT, () -> w.resultant(f, part));
        thrown(NO_INDEX, () -> w.resultant(f, w.count()));
    }

    private static void dividedAndCombined() {
        start("promise 10");
        int f = read("2*x^3+x+1");
        int g = read("2*x^2-2");
        int zero = w.number(0);
        due(shown(w.divided(f, g, 0)), "x");
        due(shown(w.divided(f, g, 1)), "3*x+1");
        due(shown(w.divided(g, f, 0)), "0");
        due(shown(w.divided(g, f, 1)), "2*x^2+32001");
        thrown(NO_QUOTIENT, () -> w.divided(f, zero, 0));
        thrown(NO_ARGUMENT, () -> w.divided(f, zero, 2));
        thrown(NO_ARGUMENT, () -> w.divided(f, g, -1));
        int part = read("1/x");
        thrown(NO_ARGUMENT, () -> w.divided(part, g, 0));
        thrown(NO_INDEX, () -> w.divided(f, -1, 2));
        int a = read("x^2-1");
        int b = read("(x-1)*(x-2)");
        int s = w.combined(a, b, 0);
        int t = w.combined(a, b, 1);
        due(shown(w.add(w.times(s, a), w.times(t, b))), "x+32002");
        due(w.degree(s, 0), 0);
        due(shown(w.combined(a, zero, 0)), "1");
        due(shown(w.combined(a, zero, 1)), "0");
        due(shown(w.combined(zero, w.number(2), 0)), "0");
        due(shown(w.combined(zero, w.number(2), 1)), String.valueOf(half(1)));
        due(shown(w.combined(b, a, 0)), shown(t));
        due(shown(w.combined(read("x^5"), read("x"), 0)), "0");
        due(shown(w.combined(read("x^5"), read("x"), 1)), "1");
        thrown(NO_ARGUMENT, () -> w.combined(zero, zero, 0));
        thrown(NO_ARGUMENT, () -> w.combined(a, b, 2));
        thrown(NO_ARGUMENT, () -> w.combined(a, part, 0));
        thrown(NO_INDEX, () -> w.combined(150, b, 0));
        fill();
        thrown(NO_QUOTIENT, () -> w.divided(f, zero, 0));
        thrown(NO_STATE, () -> w.divided(f, g, 0));
        thrown(NO_STATE, () -> w.combined(f, g, 0));
    }

    private static void leastAndFactors() {
        start("promise 11");
        int g = read("x^3-2");
        due(shown(w.least(read("x"), g)), "x^3+32001");
        due(shown(w.least(read("x^2"), g)), "x^3+31999");
        due(shown(w.least(read("x+1"), read("(x-1)^2"))), "x^2+31999*x+4");
        due(shown(w.least(w.number(5), g)), "x+31998");
        due(shown(w.least(w.number(0), g)), "x");
        due(shown(w.least(read("x^2"), read("3*x^2-12"))), "x+31999");
        int one = w.number(1);
        thrown(NO_ARGUMENT, () -> w.least(g, one));
        int part = read("1/x");
        thrown(NO_ARGUMENT, () -> w.least(part, g));
        thrown(NO_INDEX, () -> w.least(part, -1));
        due(w.factors(read("0")), 0);
        due(w.factors(read("7")), 0);
        due(w.factors(read("x^4*(x-1)")), 2);
        due(w.factors(read("x^2+1")), 1);
        due(w.factors(read("x^2-2")), 1);
        int prime = read("x^40+x+19");
        due(w.factors(prime), 1);
        due(w.same(w.factor(prime, 0), prime), true);
        due(w.factors(read("5*(x^2-4)")), 2);
        due(w.factors(read("(x-1)/(x^2*(x+1)*(x+2))")), 3);
        int s = series("x");
        thrown(NO_ARGUMENT, () -> w.factors(s));
        thrown(NO_INDEX, () -> w.factors(w.count()));
    }

    private static void factorAndOften() {
        start("promise 12");
        int f = read("3*(x^2+1)*(x-1)^3*(x+1)*x");
        due(w.factors(f), 4);
        due(shown(w.factor(f, 0)) + " " + w.often(f, 0), "x 1");
        due(shown(w.factor(f, 1)) + " " + w.often(f, 1), "x+1 1");
        due(shown(w.factor(f, 2)) + " " + w.often(f, 2), "x+32002 3");
        due(shown(w.factor(f, 3)) + " " + w.often(f, 3), "x^2+1 1");
        thrown(NO_INDEX, () -> w.factor(f, 4));
        thrown(NO_INDEX, () -> w.factor(f, -1));
        thrown(NO_INDEX, () -> w.often(f, 4));
        int g = read("x/(x-1)");
        due(shown(w.factor(g, 0)), "x+32002");
        int s = series("x");
        thrown(NO_ARGUMENT, () -> w.factor(s, 9));
        thrown(NO_ARGUMENT, () -> w.often(s, 9));
        thrown(NO_INDEX, () -> w.often(-1, 0));
        int many = read("x^40-1");
        int all = w.number(1);
        int last = 0;
        for (int k = 0; k < w.factors(many); k++) {
            int p = w.factor(many, k);
            if (w.degree(p, 0) < last) due(w.degree(p, 0), last);
            last = w.degree(p, 0);
            all = w.times(all, p);
        }
        due(w.same(all, many), true);
        fill();
        thrown(NO_STATE, () -> w.factor(f, 0));
        thrown(NO_INDEX, () -> w.factor(f, 4));
    }

    private static void remainderAndPart() {
        start("promise 13");
        int f = read("x^2+3+2/(x-1)+5/(x-1)^2+(x+7)/(x^2+1)");
        due(shown(w.remainder(f)), "x^2+3");
        due(shown(w.part(f, 0, 1)), "2");
        due(shown(w.part(f, 0, 2)), "5");
        due(shown(w.part(f, 1, 1)), "x+7");
        thrown(NO_INDEX, () -> w.part(f, 0, 3));
        thrown(NO_INDEX, () -> w.part(f, 0, 0));
        thrown(NO_INDEX, () -> w.part(f, 2, 1));
        thrown(NO_INDEX, () -> w.part(f, -1, 1));
        int g = read("x^3");
        int same = w.remainder(g);
        due(same, w.count() - 1);
        due(w.same(g, same), true);
        thrown(NO_INDEX, () -> w.part(g, 0, 1));
        due(shown(w.part(read("1/x^3"), 0, 2)), "0");
        due(shown(w.remainder(read("1/x"))), "0");
        int s = series("x");
        thrown(NO_ARGUMENT, () -> w.part(s, 9, 9));
        thrown(NO_ARGUMENT, () -> w.remainder(s));
        thrown(NO_INDEX, () -> w.remainder(-1));
    }

    private static void coreAndRest() {
        start("promise 14");
        int f = w.derive(read("x^3+(x+2)/((x-1)^2*(x^2+3))"));
        due(shown(w.core(f)), shown(read("x^3+(x+2)/((x-1)^2*(x^2+3))")));
        due(shown(w.rest(f)), "0");
        int g = read("2*x+1/(x-1)^2+3/(x-1)+1/(x+1)");
        due(shown(w.core(g)), shown(read("x^2-1/(x-1)")));
        due(shown(w.rest(g)), shown(read("3/(x-1)+1/(x+1)")));
        due(shown(w.core(read("1"))), "x");
        due(shown(w.rest(read("x^5"))), "0");
        int high = read("x^40");
        thrown(NO_STATE, () -> w.core(high));
        due(shown(w.rest(high)), "0");
        int deep = read("(x^39+2)/(x^40-1)");
        due(w.same(w.rest(deep), deep), true);
        int s = series("x");
        thrown(NO_ARGUMENT, () -> w.core(s));
        thrown(NO_ARGUMENT, () -> w.rest(s));
        thrown(NO_INDEX, () -> w.core(-1));
        thrown(NO_INDEX, () -> w.rest(w.count()));
    }

    private static void logAndIntegral() {
        start("promise 15");
        int f = read("x+1/(x-1)^2+3/(x-1)+10*x/(x^2+1)+1/(x^2+4)");
        due(w.log(f, 0), 3);
        due(w.log(f, 1), 5);
        due(w.log(f, 2), -1);
        thrown(NO_INDEX, () -> w.log(f, 3));
        thrown(NO_INDEX, () -> w.log(f, -1));
        int whole = read("x^2-1");
        thrown(NO_INDEX, () -> w.log(whole, 0));
        int square = read("1/(x-1)^2");
        thrown(NO_INDEX, () -> w.log(square, 0));
        int s = series("1/(1-x)");
        thrown(NO_ARGUMENT, () -> w.log(s, 0));
        due(shown(w.integral(square)), "(32002)/(x+32002)");
        int before = w.count();
        due(w.integral(f), -1);
        due(w.count(), before);
        int high = read("x^40");
        thrown(NO_STATE, () -> w.integral(high));
        int t = w.integral(s);
        due(firstNumbers(t, 3), "0 1 " + half(1));
        due(w.at(t, 0, 24), w.at(w.integral(series("x^23")), 0, 24));
        due(w.degree(w.integral(series("x^24")), 0), 25);
        int m = matrix(1, 1, "x");
        thrown(NO_ARGUMENT, () -> w.integral(m));
        thrown(NO_INDEX, () -> w.integral(-1));
        fill();
        thrown(NO_STATE, () -> w.integral(f));
        due(w.log(f, 0), 3);
    }

    private static void closedAndTerm() {
        start("promise 16");
        due(shown(w.closed(read("1"))), "x");
        due(shown(w.closed(read("2"))), "1");
        due(w.closed(read("x+1")), -1);
        due(shown(w.closed(read("(x+1)^2/x"))), "(1)/(x)");
        due(shown(w.closed(read("(x+2)/(x+1)"))), shown(read("x/2")));
        due(shown(w.closed(read("(x+1)/(x+3)"))), shown(read("-(x+1)*(x+2)/(x+1)")));
        due(w.closed(read("1/x")), -1);
        int c = w.closed(read("(x^2+1)/(x^2-2*x+2)"));
        int f = read("(x^2+1)/(x^2-2*x+2)");
        due(shown(w.less(w.times(w.put(c, read("x+1")), f), c)), "1");
        int top = read("x^10+1");
        int slope = read("(x+1)^15*((x+1)^10+1)-#" + top);
        int next = w.put(slope, read("x+1"));
        due(w.same(w.closed(read("(x+1)^15*#" + next + "/#" + slope)), w.over(top, slope)), true);
        int before = w.count();
        int zero = w.number(0);
        thrown(NO_ARGUMENT, () -> w.closed(zero));
        due(w.count(), before + 1);
        int s = series("x");
        thrown(NO_ARGUMENT, () -> w.closed(s));
        thrown(NO_INDEX, () -> w.closed(-1));
        int g = read("(x+1)/(x+3)");
        due(w.term(g, 0), 1);
        due(w.term(g, 2), w.value(read("1/6"), 0));
        int h = read("x+1");
        due(w.term(h, 5), 120);
        due(w.term(h, 60) >= 0, true);
        thrown(NO_ARGUMENT, () -> w.term(h, 61));
        thrown(NO_ARGUMENT, () -> w.term(h, -1));
        thrown(NO_ARGUMENT, () -> w.term(zero, 0));
        thrown(NO_ARGUMENT, () -> w.term(s, 0));
        thrown(NO_INDEX, () -> w.term(w.count(), 99));
        int pole = read("x/(x-3)");
        due(w.term(pole, 3), 0);
        thrown(NO_QUOTIENT, () -> w.term(pole, 4));
        fill();
        thrown(NO_STATE, () -> w.closed(h));
        thrown(NO_ARGUMENT, () -> w.closed(zero));
    }

    private static void sumAndSeries() {
        start("promise 17");
        int f = read("x+1");
        due(w.sum(f, 0), 0);
        due(w.sum(f, 1), 1);
        due(w.sum(f, 5), 34);
        int g = read("1/(x-2)");
        due(w.sum(g, 3) >= 0, true);
        thrown(NO_QUOTIENT, () -> w.sum(g, 4));
        due(w.sum(f, 60) >= 0, true);
        thrown(NO_ARGUMENT, () -> w.sum(f, 61));
        thrown(NO_ARGUMENT, () -> w.sum(f, -1));
        int zero = w.number(0);
        thrown(NO_ARGUMENT, () -> w.sum(zero, 1));
        thrown(NO_INDEX, () -> w.sum(-1, 99));
        due(firstNumbers(series("1/(1-x)^2"), 4), "1 2 3 4");
        due(firstNumbers(series("x^30+x^24"), 1) + w.degree(w.count() - 1, 0), "024");
        int pole = read("1/x");
        thrown(NO_QUOTIENT, () -> w.series(pole));
        int s = w.series(f);
        thrown(NO_ARGUMENT, () -> w.series(s));
        thrown(NO_ARGUMENT, () -> w.sum(s, 1));
        thrown(NO_INDEX, () -> w.series(150));
        fill();
        thrown(NO_QUOTIENT, () -> w.series(pole));
        thrown(NO_STATE, () -> w.series(f));
    }

    private static void exponentialAndLogarithm() {
        start("promise 18");
        int e = w.exponential(series("x"));
        int sixth = w.value(read("1/6"), 0);
        due(firstNumbers(e, 4), "1 1 " + half(1) + " " + sixth);
        due(w.same(w.derive(e), e), false);
        due(w.at(w.derive(e), 0, 23), w.at(e, 0, 23));
        int l = w.logarithm(series("1/(1-x)"));
        due(firstNumbers(l, 4), "0 1 " + half(1) + " " + w.value(read("1/3"), 0));
        due(w.same(w.exponential(l), series("1/(1-x)")), true);
        int one = series("1");
        due(w.degree(w.logarithm(one), 0), 25);
        int two = series("2");
        thrown(NO_ARGUMENT, () -> w.exponential(one));
        thrown(NO_ARGUMENT, () -> w.logarithm(two));
        int f = read("x");
        thrown(NO_ARGUMENT, () -> w.exponential(f));
        thrown(NO_ARGUMENT, () -> w.logarithm(f));
        thrown(NO_INDEX, () -> w.exponential(-1));
        thrown(NO_INDEX, () -> w.logarithm(150));
        int s = series("x");
        fill();
        thrown(NO_STATE, () -> w.exponential(s));
        thrown(NO_ARGUMENT, () -> w.logarithm(s));
    }

    private static void reverseAndRoot() {
        start("promise 19");
        int s = series("x/(1-x)");
        int r = w.reverse(s);
        due(firstNumbers(r, 4), "0 1 32002 1");
        due(w.same(w.put(s, r), series("x")), true);
        int odd = series("3*x+x^2-x^5/(1+x)");
        due(w.same(w.put(odd, w.reverse(odd)), series("x")), true);
        int one = series("1+x");
        int square = series("x^2");
        thrown(NO_ARGUMENT, () -> w.reverse(one));
        thrown(NO_ARGUMENT, () -> w.reverse(square));
        int root = w.root(series("(2+x)^2"));
        due(firstNumbers(root, 3), "2 1 0");
        due(firstNumbers(w.root(series("(x-2)^2")), 3), "2 32002 0");
        due(firstNumbers(w.root(one), 2), "1 " + half(1));
        int minus = series("-1");
        thrown(NO_ARGUMENT, () -> w.root(minus));
        thrown(NO_ARGUMENT, () -> w.root(square));
        int f = read("x");
        thrown(NO_ARGUMENT, () -> w.reverse(f));
        thrown(NO_ARGUMENT, () -> w.root(f));
        thrown(NO_INDEX, () -> w.reverse(-1));
        thrown(NO_INDEX, () -> w.root(150));
        fill();
        thrown(NO_STATE, () -> w.reverse(s));
        thrown(NO_STATE, () -> w.root(one));
    }

    private static void guessAndTake() {
        start("promise 20");
        int f = read("(x^11+3*x-1)/(x^12+2*x^3+5)");
        due(w.same(w.guess(w.series(f)), f), true);
        int poly = read("x^3-7");
        due(w.same(w.guess(w.series(poly)), poly), true);
        due(shown(w.guess(series("0"))), "0");
        due(w.guess(series("x^24")), -1);
        due(w.guess(series("x^12")), -1);
        due(shown(w.guess(series("x^11"))), "x^11");
        int e = w.exponential(series("x"));
        int before = w.count();
        due(w.guess(e), -1);
        due(w.count(), before);
        thrown(NO_ARGUMENT, () -> w.guess(f));
        thrown(NO_INDEX, () -> w.guess(-1));
        due(w.take(poly), 1);
        due(w.take(poly), 2);
        int high = read("x^11");
        thrown(NO_ARGUMENT, () -> w.take(high));
        thrown(NO_ARGUMENT, () -> w.take(f));
        thrown(NO_ARGUMENT, () -> w.take(e));
        thrown(NO_INDEX, () -> w.take(w.count()));
        for (int i = 3; i <= 16; i++) due(w.take(poly), i);
        due(w.take(poly), -1);
        thrown(NO_ARGUMENT, () -> w.take(high));
        due(w.degree(w.matrix(4, 4), 1), 4);
        fill();
        thrown(NO_STATE, () -> w.guess(e));
        due(w.take(poly), 1);
    }

    private static void matrixAndEntry() {
        start("promise 21");
        int m = matrix(2, 3, "1", "2", "x", "4", "x^10", "6");
        due(entries(m), "1 2 x ; 4 x^10 6");
        due(w.degree(m, 0) + " " + w.degree(m, 1), "2 3");
        due(shown(w.entry(m, 1, 2)), "6");
        thrown(NO_INDEX, () -> w.entry(m, 2, 0));
        thrown(NO_INDEX, () -> w.entry(m, 0, 3));
        thrown(NO_INDEX, () -> w.entry(m, -1, 0));
        thrown(NO_INDEX, () -> w.entry(-1, 0, 0));
        thrown(NO_ARGUMENT, () -> w.matrix(0, 1));
        thrown(NO_ARGUMENT, () -> w.matrix(1, 0));
        int f = read("x");
        thrown(NO_ARGUMENT, () -> w.entry(f, 9, 9));
        w.take(f);
        w.take(f);
        thrown(NO_ARGUMENT, () -> w.matrix(1, 1));
        thrown(NO_ARGUMENT, () -> w.matrix(0, 0));
        thrown(NO_ARGUMENT, () -> w.matrix(-1, -2));
        thrown(NO_ARGUMENT, () -> w.matrix(Integer.MIN_VALUE, 2));
        due(entries(w.matrix(1, 2)), "x x");
        thrown(NO_ARGUMENT, () -> w.matrix(1, 2));
        for (int i = 0; i < 5; i++) w.take(f);
        thrown(NO_ARGUMENT, () -> w.matrix(5, 1));
        fill();
        thrown(NO_ARGUMENT, () -> w.matrix(1, 1));
        thrown(NO_STATE, () -> w.entry(m, 0, 0));
        w.clear();
        w.take(read("x"));
        fill();
        thrown(NO_STATE, () -> w.matrix(1, 1));
        due(w.take(0), 2);
    }

    private static void turnedAndDeterminant() {
        start("promise 22");
        int m = matrix(2, 3, "1", "2", "x", "4", "x^10", "6");
        due(entries(w.turned(m)), "1 4 ; 2 x^10 ; x 6");
        thrown(NO_ARGUMENT, () -> w.determinant(m));
        due(shown(w.determinant(matrix(2, 2, "x", "1", "2", "x"))), "x^2+32001");
        due(shown(w.determinant(matrix(3, 3, "0", "1", "0", "0", "0", "1", "x", "0", "0"))), "x");
        due(shown(w.determinant(matrix(3, 3, "0", "1", "0", "1", "0", "0", "0", "0", "x"))), "32002*x");
        due(shown(w.determinant(matrix(1, 1, "7"))), "7");
        String ten = "x^10";
        due(shown(w.determinant(matrix(4, 4, ten, "0", "0", "0", "0", ten, "0", "0", "0", "0", ten, "0", "0", "0",
                "0", ten))), "x^40");
        int f = read("x");
        thrown(NO_ARGUMENT, () -> w.determinant(f));
        thrown(NO_ARGUMENT, () -> w.turned(f));
        thrown(NO_INDEX, () -> w.determinant(-1));
        thrown(NO_INDEX, () -> w.turned(150));
        fill();
        thrown(NO_STATE, () -> w.turned(m));
    }

    private static void rankAndInvariant() {
        start("promise 23");
        due(w.rank(matrix(2, 2, "x", "x^2", "1", "x")), 1);
        due(w.rank(matrix(1, 2, "0", "0")), 0);
        due(w.rank(matrix(2, 3, "x", "0", "0", "0", "0", "1")), 2);
        int m = matrix(3, 3, "x", "0", "0", "0", "2*x^2", "0", "0", "0", "0");
        due(w.rank(m), 2);
        due(shown(w.invariant(m, 0)), "x");
        due(shown(w.invariant(m, 1)), "x^2");
        thrown(NO_INDEX, () -> w.invariant(m, 2));
        thrown(NO_INDEX, () -> w.invariant(m, -1));
        int n = matrix(2, 2, "x-1", "0", "0", "x-2");
        due(shown(w.invariant(n, 0)), "1");
        due(shown(w.invariant(n, 1)), "x^2+32000*x+2");
        int f = read("x");
        thrown(NO_ARGUMENT, () -> w.rank(f));
        thrown(NO_ARGUMENT, () -> w.invariant(f, 9));
        thrown(NO_INDEX, () -> w.rank(-1));
        fill();
        thrown(NO_STATE, () -> w.invariant(n, 0));
        thrown(NO_INDEX, () -> w.invariant(n, 2));
    }

    private static void ownAndAdjoint() {
        start("promise 24");
        int m = matrix(2, 2, "1", "2", "3", "x");
        due(entries(w.own(m)), "x+32002 32001 ; 32000 0");
        due(entries(w.adjoint(m)), "x 32001 ; 32000 1");
        due(entries(w.adjoint(matrix(1, 1, "x"))), "1");
        due(entries(w.adjoint(matrix(3, 3, "0", "1", "0", "0", "0", "1", "x", "0", "0"))), "0 0 1 ; x 0 0 ; 0 x 0");
        int wide = matrix(1, 2, "x", "1");
        thrown(NO_ARGUMENT, () -> w.own(wide));
        thrown(NO_ARGUMENT, () -> w.adjoint(wide));
        int high = matrix(3, 3, "x^10", "0", "0", "0", "x", "0", "0", "0", "x");
        thrown(NO_STATE, () -> w.adjoint(high));
        int f = read("x");
        thrown(NO_ARGUMENT, () -> w.own(f));
        thrown(NO_INDEX, () -> w.own(-1));
        thrown(NO_INDEX, () -> w.adjoint(150));
    }

    private static void companionAndWithin() {
        start("promise 25");
        int f = read("x^3+2*x^2+3*x-4");
        int m = w.companion(f);
        due(entries(m), "0 0 4 ; 1 0 32000 ; 0 1 32001");
        due(entries(w.companion(read("x-5"))), "5");
        due(w.same(w.determinant(w.own(m)), f), true);
        due(entries(w.within(f, m)), "0 0 0 ; 0 0 0 ; 0 0 0");
        due(entries(w.within(read("x^2+1"), matrix(2, 2, "1", "2", "3", "4"))), "8 10 ; 15 23");
        due(entries(w.within(read("7"), matrix(2, 2, "1", "2", "3", "4"))), "7 0 ; 0 7");
        int twice = read("2*x+1");
        int deep = read("x^5");
        int number = read("1");
        int part = read("1/x");
        thrown(NO_ARGUMENT, () -> w.companion(twice));
        thrown(NO_ARGUMENT, () -> w.companion(deep));
        thrown(NO_ARGUMENT, () -> w.companion(number));
        thrown(NO_ARGUMENT, () -> w.companion(part));
        thrown(NO_ARGUMENT, () -> w.companion(m));
        thrown(NO_INDEX, () -> w.companion(-1));
        int letter = matrix(1, 1, "x");
        int wide = matrix(1, 2, "1", "1");
        thrown(NO_ARGUMENT, () -> w.within(f, letter));
        thrown(NO_ARGUMENT, () -> w.within(f, wide));
        thrown(NO_ARGUMENT, () -> w.within(part, m));
        thrown(NO_ARGUMENT, () -> w.within(m, f));
        thrown(NO_INDEX, () -> w.within(part, -1));
    }

    private static void solvedAndMade() {
        start("promise 26");
        int m = matrix(2, 3, "x", "1", "1", "1", "x", "0");
        due(shown(w.solved(m, 0)), "(x)/(x^2+32002)");
        due(shown(w.solved(m, 1)), "(32002)/(x^2+32002)");
        thrown(NO_INDEX, () -> w.solved(m, 2));
        thrown(NO_INDEX, () -> w.solved(m, -1));
        int free = matrix(1, 4, "0", "x", "1", "x^2");
        due(shown(w.solved(free, 0)) + " " + shown(w.solved(free, 1)) + " " + shown(w.solved(free, 2)), "0 x 0");
        int none = matrix(2, 2, "x", "1", "x", "2");
        int before = w.count();
        due(w.solved(none, 0), -1);
        due(w.count(), before);
        int single = matrix(2, 1, "x", "1");
        thrown(NO_INDEX, () -> w.solved(single, 0));
        int f = read("1/x");
        thrown(NO_ARGUMENT, () -> w.solved(f, 9));
        thrown(NO_INDEX, () -> w.solved(150, 0));
        int rule = matrix(1, 3, "x", "0", "1");
        due(shown(w.made(rule, 0, f)), "(x+3)/(x+2)");
        due(shown(w.made(rule, 1, f)), "(x^3+2)/(x^3)");
        int s = series("x^3");
        due(firstNumbers(w.made(rule, 1, s), 5), "0 6 0 0 1");
        thrown(NO_ARGUMENT, () -> w.made(rule, 0, s));
        thrown(NO_ARGUMENT, () -> w.made(rule, 2, f));
        thrown(NO_ARGUMENT, () -> w.made(rule, -1, f));
        thrown(NO_ARGUMENT, () -> w.made(none, 0, f));
        thrown(NO_ARGUMENT, () -> w.made(rule, 1, rule));
        int zero = matrix(1, 2, "x", "0");
        thrown(NO_ARGUMENT, () -> w.made(zero, 0, f));
        thrown(NO_INDEX, () -> w.made(rule, 5, -1));
        int high = read("x^40");
        thrown(NO_STATE, () -> w.made(rule, 0, high));
        due(shown(w.made(matrix(1, 2, "1", "0-1"), 0, high)).startsWith("31963*x^39"), true);
        fill();
        thrown(NO_STATE, () -> w.solved(none, 0));
        thrown(NO_STATE, () -> w.made(rule, 0, f));
    }

    private static void answersAndAnswer() {
        start("promise 27");
        int third = matrix(1, 4, "-1", "3", "-3", "1");
        due(w.answers(third, 0), 3);
        due(w.answers(third, 1), 0);
        due(shown(w.answer(third, 0, 2)), "x^2");
        thrown(NO_INDEX, () -> w.answer(third, 0, 3));
        thrown(NO_INDEX, () -> w.answer(third, 0, -1));
        int euler = matrix(1, 3, "10", "-6*x", "x^2");
        due(w.answers(euler, 1), 2);
        due(shown(w.answer(euler, 1, 0)), "x^2");
        due(shown(w.answer(euler, 1, 1)), "x^5");
        int high = matrix(1, 2, "-20", "x");
        due(shown(w.answer(high, 1, 0)), "x^20");
        due(w.answers(matrix(1, 2, "-21", "x"), 1), 0);
        int falling = matrix(1, 2, "-x-1", "x-1");
        due(shown(w.answer(falling, 0, 0)), "x^2+32002*x");
        thrown(NO_ARGUMENT, () -> w.answers(third, 2));
        thrown(NO_ARGUMENT, () -> w.answer(third, -1, 9));
        int square = matrix(2, 1, "1", "1");
        thrown(NO_ARGUMENT, () -> w.answers(square, 0));
        thrown(NO_ARGUMENT, () -> w.answer(square, 0, 9));
        int f = read("x");
        thrown(NO_ARGUMENT, () -> w.answers(f, 0));
        thrown(NO_INDEX, () -> w.answers(-1, 0));
        fill();
        thrown(NO_STATE, () -> w.answer(third, 0, 0));
        due(w.answers(third, 0), 3);
    }

    private static void meetAndUnroll() {
        start("promise 28");
        int step = matrix(1, 2, "-1", "1");
        due(shown(w.meet(step, 0, read("2*x+1"))), "x^2");
        due(shown(w.meet(step, 0, read("0"))), "0");
        int slope = matrix(1, 2, "0", "1");
        due(shown(w.meet(slope, 1, read("x^2"))), shown(read("x^3/3")));
        due(w.degree(w.meet(slope, 1, read("x^19")), 0), 20);
        int before = w.count();
        int high = read("x^20");
        due(w.meet(slope, 1, high), -1);
        due(w.meet(slope, 1, read("x^40")), -1);
        due(w.count(), before + 2);
        int part = read("1/x");
        thrown(NO_ARGUMENT, () -> w.meet(slope, 1, part));
        thrown(NO_ARGUMENT, () -> w.meet(slope, 2, high));
        thrown(NO_ARGUMENT, () -> w.meet(high, 0, high));
        thrown(NO_INDEX, () -> w.meet(slope, 2, -1));
        int fibonacci = matrix(1, 3, "-1", "-1", "1");
        int s = series("3+4*x+9*x^2");
        due(firstNumbers(w.unroll(fibonacci, s), 6), "3 4 7 11 18 29");
        due(firstNumbers(w.unroll(matrix(1, 2, "-1", "x+1"), series("1")), 3), "1 1 " + half(1));
        int pole = matrix(1, 2, "1", "x-23");
        thrown(NO_QUOTIENT, () -> w.unroll(pole, s));
        due(w.kind(w.unroll(matrix(1, 2, "1", "x-24"), s)), 1);
        due(w.degree(w.unroll(matrix(1, 1, "1"), s), 0), 25);
        thrown(NO_ARGUMENT, () -> w.unroll(pole, high));
        thrown(NO_ARGUMENT, () -> w.unroll(s, s));
        thrown(NO_INDEX, () -> w.unroll(pole, 150));
        fill();
        thrown(NO_QUOTIENT, () -> w.unroll(pole, s));
        thrown(NO_STATE, () -> w.unroll(fibonacci, s));
        thrown(NO_STATE, () -> w.meet(slope, 1, high));
    }

    private static void obeysAndFit() {
        start("promise 29");
        int fibonacci = matrix(1, 3, "-1", "-1", "1");
        due(w.obeys(fibonacci, series("1/(1-x-x^2)")), true);
        due(w.obeys(fibonacci, series("1/(1-x-x^2)+x^24")), false);
        due(w.obeys(fibonacci, series("1")), false);
        int s = series("0");
        due(w.obeys(fibonacci, s), true);
        due(w.obeys(matrix(1, 1, "x"), series("5")), true);
        int f = read("x");
        thrown(NO_ARGUMENT, () -> w.obeys(fibonacci, f));
        thrown(NO_ARGUMENT, () -> w.obeys(f, s));
        thrown(NO_INDEX, () -> w.obeys(fibonacci, -1));
        int step = matrix(1, 3, "1", "x", "2");
        due(shown(w.fit(step, f)), "3*x^2+2*x+1");
        due(shown(w.fit(step, read("1/x"))), "(2*x^2+2*x+2)/(x^2+x)");
        due(shown(w.fit(matrix(1, 2, "-x-1", "1"), read("x+1"))), "0");
        thrown(NO_ARGUMENT, () -> w.fit(step, s));
        thrown(NO_ARGUMENT, () -> w.fit(f, f));
        thrown(NO_INDEX, () -> w.fit(f, 150));
        int high = read("x^40");
        thrown(NO_STATE, () -> w.fit(step, high));
        due(w.degree(w.fit(matrix(1, 2, "1", "2"), high), 0), 40);
    }

    private static void ruleAndRecur() {
        start("promise 30");
        int s = series("1/(1-x-x^2)");
        due(entries(w.rule(s, 2, 0)), "32002 32002 1");
        due(entries(w.rule(s, 3, 0)), "32002 32002 1");
        int e = w.exponential(series("x"));
        due(entries(w.rule(e, 1, 1)), "32002 x+1");
        due(entries(w.rule(series("x^2"), 0, 1)), "x+32001");
        due(entries(w.rule(series("0"), 3, 4)), "1");
        int first = series("1");
        due(w.rule(first, 0, 0), -1);
        due(entries(w.rule(first, 0, 1)), "x");
        int before = w.count();
        due(w.rule(e, 1, 0), -1);
        due(w.count(), before);
        thrown(NO_ARGUMENT, () -> w.rule(s, 4, 0));
        thrown(NO_ARGUMENT, () -> w.rule(s, -1, 0));
        thrown(NO_ARGUMENT, () -> w.rule(s, 0, 5));
        thrown(NO_ARGUMENT, () -> w.rule(s, 0, -1));
        int f = read("x");
        thrown(NO_ARGUMENT, () -> w.rule(f, 0, 0));
        thrown(NO_INDEX, () -> w.rule(-1, 9, 9));
        int slope = matrix(1, 2, "-1", "1");
        due(entries(w.recur(slope)), "32002 x+1");
        due(entries(w.recur(matrix(1, 2, "1", "x"))), "x+1");
        due(entries(w.recur(matrix(1, 3, "x", "0", "1"))), "1 0 0 x^2+5*x+6");
        int wide = matrix(1, 3, "x^2", "0", "1");
        thrown(NO_STATE, () -> w.recur(wide));
        due(w.obeys(w.recur(slope), e), true);
        int no = matrix(1, 2, "1", "0");
        thrown(NO_ARGUMENT, () -> w.recur(no));
        thrown(NO_ARGUMENT, () -> w.recur(f));
        thrown(NO_INDEX, () -> w.recur(150));
        fill();
        thrown(NO_STATE, () -> w.rule(e, 1, 0));
    }

    private static void formulaAndWritten() {
        start("promise 31");
        due(shown(formula("x-1-x")), "x-1-x");
        due(shown(formula("x-(1-x)")), "x-(1-x)");
        due(shown(formula("(x-1)-x")), "x-1-x");
        due(shown(formula("(x*2)/(x*3)*(4)")), "x*2/(x*3)*4");
        due(shown(formula("(-x)*(-x)^2+(-x)")), "(-x)*(-x)^2+(-x)");
        due(shown(formula("-x*2")), "-x*2");
        due(shown(formula("-(x+1)")), "-(x+1)");
        due(shown(formula("-((-x))")), "-(-x)");
        due(shown(formula("(-x)+1")), "-x+1");
        due(shown(formula("(x^2)^3*(007)^09")), "(x^2)^3*7^9");
        due(shown(formula("32003+999999")), "0+7906");
        due(shown(formula("(x*x)^0")), "(x*x)^0");
        due(w.kind(0), 3);
        due(shown(w.written(read("(x+3)/(x^2-2)"))), "(x+3)/(x^2+32001)");
        due(shown(w.written(read("0"))), "0");
        int full = read("2*x^9+3*x");
        due(w.nodes(w.written(full)), 8);
        int ones = read("(x^20-1)/(x-1)");
        int polynomial = read("2*#" + ones + "*(x^20+1)+2*x^40");
        due(w.degree(polynomial, 0), 40);
        due(w.nodes(w.written(polynomial)), 200);
        int quotient = w.over(polynomial, read("x-2"));
        thrown(NO_STATE, () -> w.written(quotient));
        int s = series("x");
        thrown(NO_ARGUMENT, () -> w.written(s));
        thrown(NO_ARGUMENT, () -> w.written(0));
        thrown(NO_INDEX, () -> w.written(-1));
        type("x+");
        thrown(NO_ARGUMENT, () -> w.formula());
        due(w.type(0), 0);
        fill();
        type("x");
        thrown(NO_STATE, () -> w.formula());
        due(w.type(0), 1);
        thrown(NO_STATE, () -> w.written(full));
    }

    private static void worthAndNodes() {
        start("promise 32");
        due(shown(w.worth(formula("(x^2-1)/(x-1)-(-x)*2"))), "3*x+1");
        due(shown(w.worth(formula("(1/x)^3+0^0"))), "(x^3+1)/(x^3)");
        int byZero = formula("1/(x-x)+x^41");
        thrown(NO_QUOTIENT, () -> w.worth(byZero));
        int great = formula("x^41+1/(x-x)");
        thrown(NO_STATE, () -> w.worth(great));
        int hidden = formula("(x^41)^0");
        thrown(NO_STATE, () -> w.worth(hidden));
        int f = read("x");
        thrown(NO_ARGUMENT, () -> w.worth(f));
        thrown(NO_ARGUMENT, () -> w.nodes(f));
        thrown(NO_INDEX, () -> w.worth(-1));
        thrown(NO_INDEX, () -> w.nodes(150));
        due(w.nodes(formula("x")), 1);
        due(w.nodes(formula("-x^2*3+x")), 7);
        due(shown(w.worth(formula(repeated("x+", 99) + "x"))), "100*x");
        due(shown(w.worth(formula(repeated("x-(", 20) + "1" + repeated(")", 20)))), "1");
        fill();
        thrown(NO_QUOTIENT, () -> w.worth(byZero));
        thrown(NO_STATE, () -> w.worth(great));
    }

    private static String node(int f, int n) {
        return w.node(f, n, 0) + " " + w.node(f, n, 1) + " " + w.node(f, n, 2) + " " + w.node(f, n, 3);
    }

    private static void nodeAndChange() {
        start("promise 33");
        int f = formula("-(x+1)^12/5-x*2");
        due(node(f, 0), "3 0 1 8");
        due(node(f, 1), "6 0 2 -1");
        due(node(f, 2), "5 0 3 7");
        due(node(f, 3), "7 12 4 -1");
        due(node(f, 4), "2 0 5 6");
        due(node(f, 5), "1 0 -1 -1");
        due(node(f, 7), "0 5 -1 -1");
        due(node(f, 8), "4 0 9 10");
        thrown(NO_INDEX, () -> w.node(f, 11, 9));
        thrown(NO_INDEX, () -> w.node(f, -1, 0));
        thrown(NO_ARGUMENT, () -> w.node(f, 0, 4));
        thrown(NO_ARGUMENT, () -> w.node(f, 0, -1));
        int g = read("x");
        thrown(NO_ARGUMENT, () -> w.node(g, 99, 0));
        thrown(NO_INDEX, () -> w.node(-1, 0, 0));
    }

    private static String changed(String text, int n, int law) {
        int f = formula(text);
        try {
            return shown(w.change(f, n, law));
        } catch (IllegalArgumentException e) {
            return "none";
        }
    }

    private static void laws() {
        start("laws of promise 33");
        due(changed("x+1", 0, 0), "1+x");
        due(changed("x*1", 0, 0), "1*x");
        due(changed("x-1", 0, 0), "none");
        due(changed("x+1+2", 0, 1), "x+(1+2)");
        due(changed("x*1*2", 0, 1), "x*(1*2)");
        due(changed("x*1+2", 0, 1), "none");
        due(changed("x+(1+2)", 0, 2), "x+1+2");
        due(changed("x*(1*2)", 0, 2), "x*1*2");
        due(changed("x+(1-2)", 0, 2), "none");
        due(changed("x*(1+2)", 0, 3), "x*1+x*2");
        due(changed("x*(1-2)", 0, 3), "x*1-x*2");
        due(changed("(1+2)*x", 0, 3), "none");
        due(changed("x^2*1+x^2*3", 0, 4), "x^2*(1+3)");
        due(changed("x*1-x*3", 0, 4), "x*(1-3)");
        due(changed("x*1-2*3", 0, 4), "none");
        due(changed("x-1", 0, 5), "x+(-1)");
        due(changed("x+(-1)", 0, 6), "x-1");
        due(changed("x+1", 0, 6), "none");
        due(changed("-(-x)", 0, 7), "x");
        due(changed("-x", 0, 7), "none");
        due(changed("x+0", 0, 8), "x");
        due(changed("0+x", 0, 8), "x");
        due(changed("x-0", 0, 8), "x");
        due(changed("0-0", 0, 8), "0");
        due(changed("x*1", 0, 8), "x");
        due(changed("1*x", 0, 8), "x");
        due(changed("x/1", 0, 8), "x");
        due(changed("(x+2)^1", 0, 8), "x+2");
        due(changed("0-x", 0, 8), "-x");
        due(changed("x*0", 0, 8), "none");
        due(changed("1/x", 0, 8), "none");
        due(changed("(x+1)^3", 0, 9), "(x+1)*(x+1)^2");
        due(changed("x^2", 0, 9), "x*x^1");
        due(changed("x^1", 0, 9), "none");
        due(changed("x^0", 0, 9), "1");
        due(changed("2+3", 0, 10), "5");
        due(changed("2-3", 0, 10), "32002");
        due(changed("200*300", 0, 10), String.valueOf(60000 % PRIME));
        due(changed("1/2", 0, 10), String.valueOf(half(1)));
        due(changed("1/0", 0, 10), "none");
        due(changed("-5", 0, 10), "31998");
        due(changed("2^10", 0, 10), "1024");
        due(changed("0^0", 0, 10), "1");
        due(changed("x+1", 0, 10), "none");
        due(changed("1/x*2", 0, 11), "1*2/x");
        due(changed("1/x/2", 0, 11), "1/(x*2)");
        due(changed("1*x/2", 0, 11), "none");
        due(changed("x-(1+2)*3", 2, 10), "none");
        due(changed("x-(1+2)*3", 3, 10), "x-3*3");
        due(changed("x", 0, 12), "none");
        due(changed("x", 0, -1), "none");
        w.clear();
        int big = formula("(" + repeated("x+", 33) + "x)*(-x+" + repeated("x+", 30) + "x)");
        due(w.nodes(big), 132);
        due(w.nodes(w.change(big, 0, 3)), 200);
        int bigger = formula("(" + repeated("x+", 33) + "x)*(" + repeated("x+", 32) + "x)");
        due(w.nodes(bigger), 133);
        thrown(NO_STATE, () -> w.change(bigger, 0, 3));
        thrown(NO_INDEX, () -> w.change(big, 132, 99));
        thrown(NO_INDEX, () -> w.change(big, -1, 0));
        thrown(NO_ARGUMENT, () -> w.change(big, 0, 12));
        int f = read("x");
        thrown(NO_ARGUMENT, () -> w.change(f, 99, 0));
        thrown(NO_INDEX, () -> w.change(-1, 0, 0));
        fill();
        thrown(NO_ARGUMENT, () -> w.change(big, 0, 12));
        thrown(NO_STATE, () -> w.change(big, 0, 0));
    }

    private static void simpleAndRows() {
        start("promise 34");
        int f = formula("x*(2-1)+0*x-(-(-x))^1-(-(-3))");
        int t = w.simple(f);
        due(shown(t), "x+0*x-x-3");
        due(w.rows(), 6);
        due(w.row(0, 0) + " " + w.row(0, 1), "16 10");
        due(w.row(1, 0) + " " + w.row(1, 1), "15 10");
        due(w.row(2, 0) + " " + w.row(2, 1), "12 7");
        due(w.row(3, 0) + " " + w.row(3, 1), "11 8");
        due(w.row(4, 0) + " " + w.row(4, 1), "5 10");
        due(w.row(5, 0) + " " + w.row(5, 1), "3 8");
        int same = w.simple(t);
        due(w.same(same, t), true);
        due(same, w.count() - 1);
        due(w.rows(), 0);
        due(shown(w.simple(formula("0-5"))), "31998");
        due(w.rows(), 2);
        due(w.row(0, 1) + " " + w.row(1, 1), "8 10");
        int g = read("x");
        thrown(NO_ARGUMENT, () -> w.simple(g));
        thrown(NO_INDEX, () -> w.simple(150));
        due(w.rows(), 2);
        fill();
        thrown(NO_STATE, () -> w.simple(f));
        due(w.rows(), 2);
        w.clear();
        due(w.rows(), 2);
        due(w.row(1, 1), 10);
    }

    private static void rowAndClaim() {
        start("promise 35");
        w.simple(formula("x+0"));
        due(w.row(0, 0), 0);
        due(w.row(0, 1), 8);
        due(w.row(0, 2), -1);
        due(w.row(0, -1), -1);
        due(w.row(1, 0), -1);
        due(w.row(-1, 0), -1);
        due(claim("(x+1)^2=x^2+2*x+1"), true);
        due(claim("x=x+1"), false);
        due(claim("-x=0-x"), true);
        int f = read("x");
        due(claim("#" + f + "=x"), true);
        due(w.type(0), 0);
        due(faultOfClaim("x"), "1 at 1");
        due(faultOfClaim("x="), "1 at 2");
        due(faultOfClaim("=x"), "1 at 0");
        due(faultOfClaim("x=x=x"), "1 at 3");
        due(faultOfClaim("(x=x)"), "1 at 2");
        due(faultOfClaim("(x^40*x^40=x"), "5 at 5");
        due(faultOfClaim("x^40*x=A"), "5 at 4");
        due(faultOfClaim("x=1/0"), "4 at 3");
        due(faultOfClaim("x=#99"), "3 at 2");
        due(faultOfClaim("x=A"), "7 at 2");
        due(w.type(0), 0);
        due(claim("1=1"), true);
        due(w.fault(0) + " " + w.fault(1), "0 -1");
        fill();
        due(claim("#" + f + "=x"), true);
        due(w.count(), 150);
    }

    private static void enterAndCell() {
        start("promise 36");
        due(enter('A', "x+1"), 3);
        due(w.type(0), 0);
        due(enter('B', "A*2"), 3);
        due(cell('B'), "1 0 -1 1");
        due(cell('C'), "0 0 -1 0");
        due(enter('C', "1/(A-x-1)"), 9);
        due(cell('C'), "2 4 1 1");
        enter('D', "B+E");
        due(cell('D'), "2 7 2 3");
        enter('D', "2**E");
        due(cell('D'), "2 1 2 1");
        enter('D', "#0");
        due(cell('D'), "2 1 0 0");
        enter('D', "Q");
        due(cell('D'), "2 1 0 0");
        due(enter('D', ""), 0);
        due(cell('D'), "0 0 -1 0");
        thrown(NO_INDEX, () -> w.enter(16));
        thrown(NO_INDEX, () -> w.enter(-1));
        thrown(NO_INDEX, () -> w.cell(16, 9));
        thrown(NO_INDEX, () -> w.cell(-1, 0));
        thrown(NO_ARGUMENT, () -> w.cell(0, 4));
        thrown(NO_ARGUMENT, () -> w.cell(0, -1));
        type(repeated("x", 61));
        thrown(NO_ARGUMENT, () -> w.enter(0));
        due(w.type(0), 61);
        thrown(NO_INDEX, () -> w.enter(99));
        w.clear();
        due(cell('A'), "1 0 -1 0");
        due(enter('A', repeated("x+", 29) + "xx"), 60);
        due(cell('A'), "2 1 59 0");
        enter('P', "A");
        due(cell('P'), "2 7 0 1");
    }

    private static void workedCells() {
        start("worked cells, promise 37");
        enter('A', "x");
        enter('B', "A+A");
        enter('C', "A*B");
        due(w.worked(), 0);
        due(w.cell(2, 3), 2);
        due(w.worked(), 0);
        due(w.cell(2, 0), 1);
        due(w.worked(), 3);
        due(w.cell(1, 1), 0);
        due(w.worked(), 3);
        enter('A', "x");
        due(w.cell(1, 0), 1);
        due(w.worked(), 5);
        due(claim("C=2*x^2"), true);
        due(w.worked(), 6);
        enter('B', "5");
        due(w.cell(2, 2), -1);
        due(w.worked(), 8);
        due(w.cell(0, 0), 1);
        due(w.worked(), 8);
        enter('D', "E+1");
        due(w.cell(3, 1), 7);
        due(w.worked(), 9);
        enter('E', "");
        due(w.cell(3, 1), 7);
        due(w.worked(), 10);
        due(w.cell(4, 0), 0);
        due(w.worked(), 10);
        enter('F', "G");
        enter('G', "F+A");
        enter('A', "x");
        due(w.cell(5, 1), 8);
        due(w.worked(), 10);
        enter('H', "G");
        due(w.cell(7, 1), 7);
        due(w.worked(), 11);
        due(faultOfClaim("x$A"), "1 at 1");
        due(w.worked(), 11);
        due(faultOfClaim("A$"), "1 at 1");
        due(w.worked(), 12);
        enter('I', "1+$J");
        enter('J', "7");
        due(w.cell(8, 2), 2);
        due(w.worked(), 14);
    }

    private static void getAndCircles() {
        start("promise 37");
        enter('A', "x/2");
        due(shown(w.get(0)), half(1) + "*x");
        thrown(NO_ARGUMENT, () -> w.get(1));
        enter('B', "1/0");
        thrown(NO_ARGUMENT, () -> w.get(1));
        due(w.worked(), 2);
        thrown(NO_INDEX, () -> w.get(16));
        thrown(NO_INDEX, () -> w.get(-1));
        enter('C', "C");
        due(cell('C'), "2 8 0 1");
        thrown(NO_ARGUMENT, () -> w.get(2));
        enter('C', "D$");
        enter('D', "E+1/0");
        enter('E', "C");
        due(cell('C') + " / " + cell('D') + " / " + cell('E'), "2 8 0 3 / 2 8 0 3 / 2 8 0 3");
        enter('E', "A");
        due(cell('C') + " / " + cell('D') + " / " + cell('E'), "2 7 0 3 / 2 4 3 2 / 1 0 -1 1");
        fill();
        int before = w.worked();
        enter('A', "x");
        thrown(NO_STATE, () -> w.get(0));
        due(w.worked(), before + 1);
        thrown(NO_ARGUMENT, () -> w.get(1));
    }

    private static void kindAndDegree() {
        start("promise 38");
        int f = read("x^2/(x-1)^3");
        int s = series("x^5");
        int m = matrix(2, 3, "x", "x", "x", "1", "1", "1");
        int t = formula("x");
        due(w.kind(f) + " " + w.kind(s) + " " + w.kind(m) + " " + w.kind(t), "0 1 2 3");
        thrown(NO_INDEX, () -> w.kind(-1));
        thrown(NO_INDEX, () -> w.kind(w.count()));
        due(w.degree(f, 0) + " " + w.degree(f, 1), "2 3");
        due(w.degree(read("0"), 0) + " " + w.degree(read("0"), 1), "-1 0");
        due(w.degree(s, 0) + " " + w.degree(s, 1), "5 24");
        due(w.degree(series("0"), 0), 25);
        due(w.degree(m, 0) + " " + w.degree(m, 1), "2 3");
        thrown(NO_ARGUMENT, () -> w.degree(f, 2));
        thrown(NO_ARGUMENT, () -> w.degree(s, -1));
        thrown(NO_ARGUMENT, () -> w.degree(t, 0));
        thrown(NO_INDEX, () -> w.degree(150, 9));
    }

    private static void atAndSame() {
        start("promise 39");
        int f = read("(2*x^2+3)/(x-1)");
        due(w.at(f, 0, 2) + " " + w.at(f, 0, 1) + " " + w.at(f, 0, 3) + " " + w.at(f, 0, -1), "2 0 0 0");
        due(w.at(f, 1, 0) + " " + w.at(f, 1, 1) + " " + w.at(f, 1, Integer.MAX_VALUE), "32002 1 0");
        int s = series("1/(1-x)");
        due(w.at(s, 0, 24) + " " + w.at(s, 1, 24) + " " + w.at(s, 0, 25) + " " + w.at(s, 0, -1), "1 1 0 0");
        int m = matrix(1, 1, "x");
        int t = formula("x");
        thrown(NO_ARGUMENT, () -> w.at(m, 0, 0));
        thrown(NO_ARGUMENT, () -> w.at(t, 0, 0));
        thrown(NO_ARGUMENT, () -> w.at(f, 2, 0));
        thrown(NO_ARGUMENT, () -> w.at(s, -1, 0));
        thrown(NO_INDEX, () -> w.at(-1, 0, 0));
        due(w.same(f, read("(4*x^2+6)/(2*x-2)")), true);
        due(w.same(f, read("(4*x^2+6)/(2*x-4)")), false);
        due(w.same(read("x"), series("x")), false);
        due(w.same(s, series("1/(1-x)")), true);
        due(w.same(s, series("1/(1-x)+x^24")), false);
        due(w.same(m, matrix(1, 1, "x")), true);
        due(w.same(m, matrix(1, 1, "1")), false);
        due(w.same(matrix(1, 2, "x", "x"), matrix(2, 1, "x", "x")), false);
        due(w.same(matrix(1, 2, "x", "x"), matrix(1, 1, "x")), false);
        due(w.same(matrix(1, 1, "x"), matrix(2, 1, "x", "x")), false);
        due(w.same(t, formula("(x)")), true);
        due(w.same(formula("x+1"), formula("1+x")), false);
        due(w.same(formula("x^2"), formula("x^3")), false);
        thrown(NO_INDEX, () -> w.same(f, -1));
        thrown(NO_INDEX, () -> w.same(150, f));
    }

    private static void countAndClear() {
        start("promise 40");
        read("x");
        due(w.count(), 1);
        due(w.take(0), 1);
        enter('A', "x^2");
        due(faultOf("x x"), "1 at 1");
        type("x");
        w.clear();
        due(w.count(), 0);
        due(w.type(0), 0);
        due(w.fault(0) + " " + w.fault(1), "1 1");
        thrown(NO_INDEX, () -> w.kind(0));
        thrown(NO_ARGUMENT, () -> w.matrix(1, 1));
        due(faultOf("#0"), "3 at 0");
        due(read("x"), 0);
        due(w.take(0), 1);
        due(shown(w.get(0)), "x^2");
    }

    /** 150 things: what makes one is thrown, behind what stands ahead of that. */
    private static void fullHouse() {
        start("150 things");
        int f = read("x/(x-1)");
        int p = read("x^2");
        int s = series("x");
        int m = matrix(1, 1, "2");
        int t = formula("x+0");
        fill();
        due(w.count(), 150);
        thrown(NO_STATE, () -> w.add(f, p));
        thrown(NO_STATE, () -> w.add(s, s));
        thrown(NO_STATE, () -> w.times(m, m));
        thrown(NO_STATE, () -> w.power(f, 2));
        thrown(NO_STATE, () -> w.derive(s));
        thrown(NO_STATE, () -> w.common(p, p));
        thrown(NO_STATE, () -> w.least(p, p));
        thrown(NO_STATE, () -> w.remainder(f));
        thrown(NO_STATE, () -> w.part(f, 0, 1));
        thrown(NO_STATE, () -> w.core(f));
        thrown(NO_STATE, () -> w.rest(f));
        thrown(NO_STATE, () -> w.integral(s));
        thrown(NO_STATE, () -> w.guess(s));
        thrown(NO_STATE, () -> w.determinant(m));
        thrown(NO_STATE, () -> w.own(m));
        thrown(NO_STATE, () -> w.adjoint(m));
        thrown(NO_STATE, () -> w.companion(p));
        thrown(NO_STATE, () -> w.within(p, m));
        thrown(NO_STATE, () -> w.unroll(m, s));
        thrown(NO_STATE, () -> w.fit(m, f));
        thrown(NO_STATE, () -> w.recur(m));
        thrown(NO_STATE, () -> w.written(f));
        thrown(NO_STATE, () -> w.worth(t));
        thrown(NO_STATE, () -> w.change(t, 0, 0));
        thrown(NO_STATE, () -> w.simple(t));
        thrown(NO_ARGUMENT, () -> w.add(f, s));
        thrown(NO_INDEX, () -> w.part(f, 1, 1));
        due(w.value(f, 2), 2);
        due(w.factors(f), 1);
        due(w.rank(m), 1);
        due(w.obeys(m, s), false);
        due(w.same(f, f), true);
        due(w.count(), 150);
    }
}
