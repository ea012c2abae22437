import java.lang.reflect.InvocationTargetException;
import java.lang.reflect.Method;
import java.lang.reflect.Modifier;
import java.nio.charset.StandardCharsets;
import java.util.ArrayList;
import java.util.Comparator;
import java.util.List;
import java.util.Random;
import java.util.Set;

/** Calls of any kind with any arguments: only what the face names is thrown, and by the class itself. */
public final class ExtremesTest {
    private static final Set<Class<?>> NAMED = Set.of(IndexOutOfBoundsException.class,
            IllegalArgumentException.class, ArithmeticException.class, IllegalStateException.class);
    private static final int[] NUMBERS = {0, 0, 0, 1, 1, 1, 2, 2, 3, 4, 5, 7, 9, 15, 16, 20, 24, 25, 40, 41, 60, 61,
        99, 100, 149, 150, 199, 200, -1, -2, 32002, 32003, Integer.MAX_VALUE, Integer.MIN_VALUE};
    private static final String[] PIECES = {"x", "x", "(", ")", "^", "+", "-", "*", "/", "1", "2", "0", "40", "99",
        "#", "#1", "A", "B", "P", "=", " ", "x^40", "1/x", "(x+1)", "(x-1)^3", "\u00ff", "123456", "/0", "x^2+1"};

    private static int wrong;

    public static void main(String[] args) throws IllegalAccessException {
        List<Method> calls = new ArrayList<>();
        for (Method m : FormulaWorks.class.getDeclaredMethods()) {
            if (Modifier.isPublic(m.getModifiers())) calls.add(m);
        }
        calls.sort(Comparator.comparing(Method::getName));
        Random random = new Random(7);
        int made = 0;
        for (int run = 0; run < 400; run++) {
            FormulaWorks works = new FormulaWorks();
            for (int i = 0; i < 512; i++) {
                Method m = calls.get(random.nextInt(calls.size()));
                if (random.nextInt(3) == 0) type(works, random);
                if (!m.getName().equals("clear") || random.nextInt(20) == 0) call(works, m, random);
                made++;
            }
        }
        System.out.println(made + " calls, " + wrong + " wrong");
        if (wrong != 0) System.exit(1);
    }

    private static void type(FormulaWorks works, Random random) {
        StringBuilder text = new StringBuilder();
        int pieces = random.nextInt(8);
        for (int i = 0; i < pieces; i++) text.append(PIECES[random.nextInt(PIECES.length)]);
        if (random.nextInt(2) == 0) text = new StringBuilder(random.nextInt(3) == 0 ? "x^2-1" : "x/(x^2+x-2)");
        for (byte b : text.toString().getBytes(StandardCharsets.ISO_8859_1)) works.type(b & 255);
        try {
            if (random.nextInt(3) == 0) works.read();
            else if (random.nextInt(3) == 0) works.formula();
        } catch (IllegalArgumentException | IllegalStateException e) {
            works.type(0);
        }
    }

    private static void call(FormulaWorks works, Method m, Random random) throws IllegalAccessException {
        Class<?>[] types = m.getParameterTypes();
        Object[] values = new Object[types.length];
        for (int i = 0; i < types.length; i++) {
            int v = NUMBERS[random.nextInt(NUMBERS.length)];
            if (i == 0 && works.count() > 0 && random.nextInt(4) > 0) v = random.nextInt(works.count());
            if (types[i] == long.class) values[i] = random.nextInt(3) == 0 ? random.nextLong() : Long.valueOf(v);
            else values[i] = v;
        }
        try {
            m.invoke(works, values);
        } catch (InvocationTargetException e) {
            Throwable t = e.getCause();
            List<Class<?>> declared = List.of(m.getExceptionTypes());
            boolean own = t.getStackTrace().length > 0 && t.getStackTrace()[0].getClassName().equals("FormulaWorks");
            if (NAMED.contains(t.getClass()) && declared.contains(t.getClass()) && t.getMessage() == null && own) return;
            wrong++;
            System.out.println(m.getName() + java.util.Arrays.toString(values) + " threw " + t);
        }
    }
}
