import java.lang.reflect.InvocationTargetException;
import java.lang.reflect.Method;
import java.nio.file.Files;
import java.nio.file.Path;
import java.util.HashMap;
import java.util.List;
import java.util.Map;

/**
 * Long runs of calls, each with the answer that is due. The answers in src/test/data/runs.txt come
 * from src/test/model/model.py, a second program that was written from the document in plainer ways.
 */
public final class RunsTest {
    private static final Map<String, Method> CALLS = new HashMap<>();
    private static final Map<String, String> SHORT = Map.of(
            "java.lang.IndexOutOfBoundsException", "IOOBE",
            "java.lang.IllegalArgumentException", "IAE",
            "java.lang.ArithmeticException", "AE",
            "java.lang.IllegalStateException", "ISE");

    public static void main(String[] args) throws Exception {
        for (Method m : FormulaWorks.class.getMethods()) CALLS.put(m.getName(), m);
        List<String> lines = Files.readAllLines(Path.of(args.length > 0 ? args[0] : "src/test/data/runs.txt"));
        FormulaWorks works = new FormulaWorks();
        int run = 0;
        int wrong = 0;
        int calls = 0;
        for (int i = 0; i < lines.size(); i++) {
            if (lines.get(i).equals("new")) {
                works = new FormulaWorks();
                run++;
                continue;
            }
            String[] parts = lines.get(i).split(" = ");
            String got = answer(works, parts[0]);
            calls++;
            if (!got.equals(parts[1])) {
                wrong++;
                System.out.println("run " + run + ", line " + (i + 1) + ": " + lines.get(i) + ", answered " + got);
            }
        }
        System.out.println(calls + " calls in " + run + " runs, " + wrong + " wrong");
        if (wrong != 0 || calls == 0) System.exit(1);
    }

    private static String answer(FormulaWorks works, String line) throws IllegalAccessException {
        String[] words = line.split(" ");
        Method m = CALLS.get(words[0]);
        Class<?>[] types = m.getParameterTypes();
        Object[] values = new Object[types.length];
        for (int i = 0; i < types.length; i++) {
            if (types[i] == long.class) values[i] = Long.valueOf(words[i + 1]);
            else values[i] = Integer.valueOf(words[i + 1]);
        }
        try {
            Object got = m.invoke(works, values);
            if (got instanceof Boolean) return (Boolean) got ? "1" : "0";
            return got == null ? "0" : got.toString();
        } catch (InvocationTargetException e) {
            Throwable thrown = e.getCause();
            return thrown.getMessage() == null ? SHORT.getOrDefault(thrown.getClass().getName(), thrown.toString())
                    : thrown.toString();
        }
    }
}
