import java.lang.reflect.InvocationTargetException;
import java.lang.reflect.Method;
import java.util.ArrayList;
import java.util.HashMap;
import java.util.List;
import java.util.Map;

/**
 * A run of calls on one new object. Each call is asked by its name and kept, so that the run can be made again:
 * that is how each refused call is seen to change nothing but status().
 */
final class Run {
    private static final int MOST_CALLS = 512;
    private static final int STATUSES = 9;
    private static final long DIGITS = 1000000;
    private static final Map<String, Method> METHODS = methods();

    private record Call(Method method, Object[] arguments, Finding refusal) {
    }

    /** All runs of the test that is under way, and what was wrong in them. */
    static final List<Run> MADE = new ArrayList<>();
    static final List<String> FAULTS = new ArrayList<>();
    static int checks;

    private final ThreeTouched object = new ThreeTouched();
    private final List<Call> calls = new ArrayList<>();

    Run() {
        MADE.add(this);
    }

    private static Method method(String name) {
        Method method = METHODS.get(name);
        if (method == null) {
            throw new IllegalStateException("no call " + name);
        }
        return method;
    }

    private static Map<String, Method> methods() {
        Map<String, Method> methods = new HashMap<>();
        for (Method method : ThreeTouched.class.getMethods()) {
            if (method.getDeclaringClass() == ThreeTouched.class) {
                methods.put(method.getName(), method);
            }
        }
        return methods;
    }

    private static Object[] fit(Method method, long[] arguments) {
        Class<?>[] types = method.getParameterTypes();
        if (types.length != arguments.length) {
            throw new IllegalStateException(method.getName() + " with " + arguments.length + " arguments");
        }
        Object[] fitted = new Object[types.length];
        for (int n = 0; n < types.length; n++) {
            if (types[n] == long.class) {
                fitted[n] = arguments[n];
            } else {
                fitted[n] = Math.toIntExact(arguments[n]);
            }
        }
        return fitted;
    }

    private static long answerOf(ThreeTouched asked, Method method, Object[] arguments) {
        try {
            return ((Number) method.invoke(asked, arguments)).longValue();
        } catch (InvocationTargetException thrown) {
            throw new IllegalStateException(told(method, arguments) + " threw " + thrown.getCause(), thrown);
        } catch (IllegalAccessException hidden) {
            throw new IllegalStateException(hidden);
        }
    }

    private static String told(Method method, Object[] arguments) {
        StringBuilder text = new StringBuilder(method.getName()).append('(');
        for (int n = 0; n < arguments.length; n++) {
            text.append(n == 0 ? "" : ", ").append(arguments[n]);
        }
        return text.append(')').toString();
    }

    private long call(Method method, Object[] arguments, Finding refusal) {
        calls.add(new Call(method, arguments, refusal));
        if (calls.size() == MOST_CALLS + 1) {
            throw new IllegalStateException("more than 512 calls");
        }
        return answerOf(object, method, arguments);
    }

    long ask(String name, long... arguments) {
        Method method = method(name);
        return call(method, fit(method, arguments), null);
    }

    void due(long want, String name, long... arguments) {
        Method method = method(name);
        Object[] fitted = fit(method, arguments);
        judge(told(method, fitted), call(method, fitted, null), want);
    }

    void refused(Finding finding, String name, long... arguments) {
        Method method = method(name);
        Object[] fitted = fit(method, arguments);
        judge(told(method, fitted), call(method, fitted, finding), finding.toldBy(method.getReturnType()));
    }

    private static void judge(String call, long got, long want) {
        checks++;
        if (got != want) {
            FAULTS.add(call + " answered " + got + ", due is " + want);
        }
    }

    /** Argument at of a call is refused just outside of from to to, and far outside. */
    void beyond(int at, int from, int to, String name, long... arguments) {
        long[] outside = {from - 1L, to + 1L, Integer.MIN_VALUE, Integer.MAX_VALUE};
        for (long v : outside) {
            long[] changed = arguments.clone();
            changed[at] = v;
            refused(Finding.BEYOND, name, changed);
        }
    }

    void items(int s, long... items) {
        for (int i = 0; i < items.length; i++) {
            due(items[i], "item", s, i);
        }
    }

    void writeForm(int s, long a, long b, long c, long d) {
        due(1, "write", s, 0, a);
        due(1, "write", s, 1, b);
        due(1, "write", s, 2, c);
        due(1, "write", s, 3, d);
    }

    /** A SPOT holds (p + q times the root of d) by m. */
    void spot(int spot, long p, long q, long d, long m) {
        due(p, "number", spot, 0);
        due(q, "number", spot, 1);
        due(d, "number", spot, 2);
        due(m, "number", spot, 3);
    }

    /** Of the k-th ANSWER x, y or r is (p + q times the root of d) by m. */
    void part(int k, int which, long p, long q, long d, long m) {
        due(p, "answer", k, which, 0);
        due(q, "answer", k, which, 1);
        due(d, "answer", k, which, 2);
        due(m, "answer", k, which, 3);
    }

    void circle(int k, long x, long y, long r) {
        part(k, 0, x, 0, 0, 1);
        part(k, 1, y, 0, 0, 1);
        part(k, 2, r, 0, 0, 1);
    }

    /** Makes a SPOT (0 to 3) hold a NUMBER in lowest terms, by way of SPOTS 4 and 5; m has no prime divisor above a million. */
    void hold(int spot, long p, long q, long d, long m) {
        holdWhole(spot, p);
        if (q != 0) {
            holdWhole(4, q);
            due(1, "root", 5, d);
            due(1, "work", 4, 4, 5, 2);
            due(1, "work", spot, spot, 4, 0);
        }
        long left = m;
        while (left > 1) {
            long divisor = Math.min(left, DIGITS);
            while (left % divisor != 0) {
                divisor--;
            }
            due(1, "ratio", 5, 1, divisor);
            due(1, "work", spot, spot, 5, 2);
            left /= divisor;
        }
        spot(spot, p, q, q == 0 ? 0 : d, m);
        ask("clear", 4);
        ask("clear", 5);
    }

    private void holdWhole(int spot, long v) {
        long high = v / DIGITS;
        if (high == 0) {
            due(1, "ratio", spot, v, 1);
            return;
        }
        holdWhole(spot, high);
        due(1, "ratio", 5, DIGITS, 1);
        due(1, "work", spot, spot, 5, 2);
        due(1, "ratio", 5, v % DIGITS, 1);
        due(1, "work", spot, spot, 5, 0);
    }

    /** A fault for each refused call that changed something else than how often its finding was told. */
    void judgeRefusals() {
        for (int n = 0; n < calls.size() && n < MOST_CALLS / 3; n++) {
            Call call = calls.get(n);
            if (call.refusal() != null) {
                List<String> before = stateAfter(n);
                List<String> after = stateAfter(n + 1);
                String changed = firstChange(before, after, call.refusal().ordinal() + 1);
                checks++;
                if (changed != null) {
                    FAULTS.add(told(call.method(), call.arguments()) + " was refused, but changed " + changed);
                }
            }
        }
    }

    private static String firstChange(List<String> before, List<String> after, int counted) {
        for (int n = 0; n < Math.max(before.size(), after.size()); n++) {
            String was = n < before.size() ? before.get(n) : "nothing";
            String is = n < after.size() ? after.get(n) : "nothing";
            if (n == 0 || n == counted) {
                String name = was.substring(0, was.indexOf('='));
                was = name + "=" + (Long.parseLong(was.substring(was.indexOf('=') + 1)) + 1);
            }
            if (!was.equals(is)) {
                return was + " to " + is;
            }
        }
        return null;
    }

    /** What can be read of an object after the first calls of this run; status(-1) to status(7) come first. */
    private List<String> stateAfter(int many) {
        List<String> state = new ArrayList<>();
        Reader told = new Reader(many, state);
        for (int which = -1; which < STATUSES - 1; which++) {
            told.read("status", which);
        }
        told.readScene(10);
        told = new Reader(many, state);
        for (int what = 0; what < 3; what++) {
            told.read("answers", what);
        }
        for (int k = 0; k < 8; k++) {
            told.read("signs", k);
            for (int n = 0; n < 12; n++) {
                told.read("answer", k, n / 4, n % 4);
            }
        }
        told = new Reader(many, state);
        for (int n = 0; n < 24; n++) {
            told.read("number", n / 4, n % 4);
        }
        for (int s = 0; s < 4; s++) {
            told.readSheet(s);
        }
        told = new Reader(many, state);
        for (int n = 0; n < 9; n++) {
            told.read("back");
            told.readScene(1);
        }
        return state;
    }

    /** Reads from a new object on which the first calls of this run were made again. */
    private final class Reader {
        private final ThreeTouched again = new ThreeTouched();
        private final List<String> state;

        Reader(int many, List<String> state) {
            this.state = state;
            for (int n = 0; n < many; n++) {
                answerOf(again, calls.get(n).method(), calls.get(n).arguments());
            }
        }

        private long read(String name, long... arguments) {
            Method method = method(name);
            Object[] fitted = fit(method, arguments);
            long answer = answerOf(again, method, fitted);
            state.add(told(method, fitted) + "=" + answer);
            return answer;
        }

        private void readScene(int whats) {
            for (int what = 0; what < 6; what++) {
                read("count", what);
            }
            for (int k = 0; k < 3; k++) {
                read("ofThree", k);
            }
            for (int i = 0; i < 6; i++) {
                for (int what = 0; what < whats; what++) {
                    read("of", i, what);
                }
                read("of", i, 7);
                read("of", i, 8);
                read("of", i, 9);
            }
        }

        private void readSheet(int s) {
            int i = 0;
            long item = read("item", s, i);
            while (item != Finding.BEYOND.toldBy(long.class) && item != Finding.MISSING.toldBy(long.class)) {
                i++;
                item = read("item", s, i);
            }
            // A number too wide for bytes and ints tells of which sort the row is.
            read("write", s, 0, 0x1234567890ABCDEFL);
            read("item", s, 0);
        }
    }
}
