import java.lang.reflect.InvocationTargetException;
import java.lang.reflect.Method;
import java.util.Arrays;
import java.util.Comparator;

/** Every method with every kind of argument in many states: no call throws, and wrong numbers are answered as such. */
public final class ArgumentsTest {
    private static final int[] EDGES = {
        Integer.MIN_VALUE, Integer.MIN_VALUE + 1, -1000000, -101, -21, -3, -2, -1, 0, 1, 2, 3, 4, 5, 6, 7, 8, 9, 11, 12, 13,
        19, 20, 21, 22, 23, 24, 59, 60, 61, 99, 100, 101, 168, 169, 440, 441, 499, 500, 501, 999, 1000, 9999, 10000,
        1000000000, 1000000001, Integer.MAX_VALUE - 1, Integer.MAX_VALUE};

    private final Checks checks = new Checks();
    private final Method[] methods;
    private long seed = 20260101;

    private ArgumentsTest() {
        methods = Arrays.stream(StreetWaves.class.getDeclaredMethods())
                .filter(m -> java.lang.reflect.Modifier.isPublic(m.getModifiers()))
                .sorted(Comparator.comparing(Method::getName))
                .toArray(Method[]::new);
    }

    public static void main(String[] args) throws IllegalAccessException {
        ArgumentsTest test = new ArgumentsTest();
        for (int run = 0; run < 300; run++) {
            test.run(run);
        }
        test.checks.finish();
    }

    private int pick(int below) {
        seed = seed * 6364136223846793005L + 1442695040888963407L;
        return (int) ((seed >>> 33) % below);
    }

    private void run(int run) throws IllegalAccessException {
        StreetWaves waves = new StreetWaves();
        if (run % 3 != 0) {
            Checks.town(waves, fullTown());
            Checks.law(waves, "if alone and heard>9 and not hour<5 and x=3:bar;if y<9:may;bar;");
        }
        for (int call = 0; call < 490; call++) {
            Method method = methods[pick(methods.length)];
            Object[] arguments = new Object[method.getParameterCount()];
            for (int k = 0; k < arguments.length; k++) {
                arguments[k] = method.getParameterTypes()[k] == boolean.class
                        ? (Object) (pick(2) == 0)
                        : (Object) (pick(3) == 0 ? EDGES[pick(EDGES.length)] : pick(7));
            }
            callOne(waves, method, arguments, run);
        }
    }

    private void callOne(StreetWaves waves, Method method, Object[] arguments, int run) throws IllegalAccessException {
        int threw = 0;
        try {
            method.invoke(waves, arguments);
        } catch (InvocationTargetException e) {
            threw = 1;
            e.getCause().printStackTrace();
        }
        checks.due("run " + run + ": throws of " + method.getName() + Arrays.toString(arguments), threw, 0);
    }

    private String fullTown() {
        StringBuilder text = new StringBuilder();
        for (int k = 0; k < 12; k++) {
            int at = pick(21);
            text.append(k % 2 == 0 ? "wall " + at + " 0 " + at + " 20 1;" : "wall 0 " + at + " 20 " + at + " 2;");
        }
        for (int k = 0; k < 6; k++) {
            text.append("sender ").append(pick(21)).append(' ').append(pick(21)).append(" 0 9999;");
        }
        for (int k = 0; k < 6; k++) {
            text.append("need ").append(pick(9)).append(' ').append(pick(9)).append(';');
        }
        for (int k = 0; k < 4; k++) {
            text.append("site ").append(pick(9)).append(' ').append(pick(9)).append(" 9 9;");
        }
        return text.toString();
    }
}
