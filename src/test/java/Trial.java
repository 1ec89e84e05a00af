import java.lang.reflect.InvocationTargetException;
import java.lang.reflect.Method;
import java.util.Arrays;
import java.util.HashMap;
import java.util.Map;

/** Holds objects of the program to sentences of the document; calls go by their names, 1 and 0 are true and false. */
abstract class Trial {
    static final int NONE = -1;
    static final int ABSENT = -2;
    static final int LEAST_INT = Integer.MIN_VALUE;
    static final int MOST_INT = Integer.MAX_VALUE;
    /** Numbers that no call with a small range takes. */
    static final int[] FAR = {LEAST_INT, LEAST_INT + 1, -1000, 10000000, MOST_INT - 1, MOST_INT};
    private static final int CALLS = 512;

    private final Checks checks = new Checks();
    private final Map<String, Method> methods = new HashMap<>();
    private String sentence = "";
    private StreetWaves waves = new StreetWaves();
    private int calls = 0;

    Trial() {
        for (Method method : StreetWaves.class.getMethods()) {
            if (method.getDeclaringClass() == StreetWaves.class) {
                methods.put(method.getName(), method);
            }
        }
    }

    void finish() {
        checks.finish();
    }

    /** A sentence of the document, and a new object for it. */
    final void sentence(String words) {
        sentence = words;
        anew();
    }

    /** Another new object for the same sentence. */
    final void anew() {
        waves = new StreetWaves();
        calls = 0;
    }

    /** What a call answers; the document promises nothing behind the 512th. */
    private long ask(String call, int... arguments) {
        calls++;
        if (calls > CALLS) {
            checks.due("'" + sentence + "' has too many calls", calls, CALLS);
        }
        Method method = methods.get(call);
        Class<?>[] types = method.getParameterTypes();
        Object[] values = new Object[types.length];
        for (int k = 0; k < types.length; k++) {
            values[k] = types[k] == boolean.class ? (Object) (arguments[k] != 0) : (Object) arguments[k];
        }
        try {
            Object answer = method.invoke(waves, values);
            return answer instanceof Boolean truth ? (truth ? 1 : 0) : answer instanceof Integer number ? number : 0;
        } catch (InvocationTargetException | IllegalAccessException e) {
            throw new IllegalStateException("'" + sentence + "': " + call + Arrays.toString(arguments), e);
        }
    }

    final void is(long want, String call, int... arguments) {
        checks.due("'" + sentence + "': " + call + Arrays.toString(arguments), ask(call, arguments), want);
    }

    final void yes(String call, int... arguments) {
        is(1, call, arguments);
    }

    final void no(String call, int... arguments) {
        is(0, call, arguments);
    }

    /** Calls one after the other, whose last argument goes from 0 on. */
    final void row(String call, int[] wants, int... arguments) {
        int[] all = Arrays.copyOf(arguments, arguments.length + 1);
        for (int k = 0; k < wants.length; k++) {
            all[arguments.length] = k;
            is(wants[k], call, all);
        }
    }

    /** A text on an empty tape, and how many lines are due; NONE with a fault. */
    final void town(int lines, String text) {
        tape(text);
        is(lines, "town");
    }

    final void law(int lines, String text) {
        tape(text);
        is(lines, "law");
    }

    final void tape(String text) {
        Checks.feed(waves, text);
        calls += (text.length() + 19) / 20 + 1;
    }

    final void fault(int fault, int place) {
        is(fault, "fault", 0);
        is(place, "fault", 1);
    }

    /** A new object does not take a town, and tells why. */
    final void badTown(String text, int fault, int place) {
        anew();
        town(NONE, text);
        fault(fault, place);
        for (int what = 2; what <= 5; what++) {
            is(0, "count", what);
        }
    }

    final void badLaw(String text, int fault, int place) {
        anew();
        law(NONE, text);
        fault(fault, place);
        is(0, "count", 8);
    }

    final void goodTown(int lines, String text) {
        anew();
        town(lines, text);
        fault(0, NONE);
    }

    final void goodLaw(int lines, String text) {
        anew();
        law(lines, text);
        fault(0, NONE);
        is(lines, "count", 8);
    }

    /** All that way() tells of a way, by what 0 .. 6. */
    final void way(int sender, int x, int y, int k, int... told) {
        row("way", told, sender, x, y, k);
    }

    /** Fills a sort by one text, then by several, and then there is no room for one more. */
    final void most(String line, int most, int what) {
        town(most, times(most, line));
        is(most, "count", what);
        town(NONE, line);
        fault(4, 0);
        is(most, "count", what);
        badTown(times(most + 1, line), 4, most * line.length());
        anew();
        town(most - 3, times(most - 3, line));
        town(2, times(2, line));
        town(NONE, times(2, line));
        fault(4, line.length());
        is(most - 1, "count", what);
        town(1, line);
        is(most, "count", what);
        town(0, "");
    }

    static String times(int n, String text) {
        return text.repeat(n);
    }
}
