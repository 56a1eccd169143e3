import java.lang.reflect.InvocationTargetException;
import java.lang.reflect.Method;
import java.util.Arrays;

/** Every call with every mixture of numbers at and far beyond the bounds: none throws, all answer as SlowPlans does. */
final class WildTest {
    private static final int MOST_CALLS = 512;
    private static final int LEAST_INT = Integer.MIN_VALUE;
    private static final int MOST_INT = Integer.MAX_VALUE;
    private static final int[] MANY = {LEAST_INT, LEAST_INT + 1, -65536, -10, -9, -8, -2, -1, 0, 1, 2, 3, 4, 5, 6, 7, 9, 10, 11, 15,
        16, 19, 20, 21, 31, 32, 33, 60, 61, 64, 65, 99, 100, 200, 201, 300, 301, 999, 1000, 1001, 2047, 2048, 32768, 65535,
        65536, MOST_INT - 1, MOST_INT};
    private static final int[] SOME = {LEAST_INT, -9, -1, 0, 1, 3, 5, 9, 10, 11, 15, 16, 60, 100, MOST_INT};
    private static final String FULL = Edges.each(0, 15, "team(9, 0, 0, 9); sit(#, 3); grow(#, 19, 200); person(#, 1, 33)")
        + Edges.each(0, 1, "target(#, 4)") + "floor(3, 1, 2); floor(4, 0, 300); fix(9, true)";
    private static final String[] HOUSES = {"", Edges.TOLD, FULL};

    private final Due due;
    private final String house;
    private final Method face;
    private final Method slowFace;
    private Plans plans;
    private SlowPlans slow;
    private int calls;

    private WildTest(Due due, String house, Method face) throws NoSuchMethodException {
        this.due = due;
        this.house = house;
        this.face = face;
        slowFace = SlowPlans.class.getDeclaredMethod(face.getName(), face.getParameterTypes());
        anew();
    }

    public static void main(String[] args) throws ReflectiveOperationException {
        Due due = new Due("WildTest");
        for (Method method : FloorPlans.class.getMethods()) {
            for (String house : HOUSES) {
                if (method.getDeclaringClass() == FloorPlans.class) {
                    new WildTest(due, house, method).askAll(new Object[method.getParameterCount()], 0);
                }
            }
        }
        due.end();
    }

    private void anew() {
        plans = new Plans();
        slow = new SlowPlans();
        calls = 0;
        for (String call : house.split(";")) {
            if (!call.isBlank()) {
                plans.ask(call.trim());
                askSlow(call.trim());
                calls++;
            }
        }
    }

    private int askSlow(String call) {
        String inside = call.substring(call.indexOf('(') + 1, call.indexOf(')'));
        Object[] arguments = inside.isBlank() ? new Object[0]
            : Arrays.stream(inside.split(",")).map(String::trim).map(WildTest::argument).toArray();
        for (Method method : SlowPlans.class.getDeclaredMethods()) {
            if (method.getName().equals(call.substring(0, call.indexOf('('))) && !method.isSynthetic()
                && method.getParameterCount() == arguments.length) {
                return invoke(method, arguments);
            }
        }
        throw new IllegalArgumentException("no call: " + call);
    }

    private static Object argument(String word) {
        return word.equals("true") || word.equals("false") ? (Object) Boolean.valueOf(word) : (Object) Integer.valueOf(word);
    }

    private int invoke(Method method, Object... arguments) {
        try {
            return (Integer) method.invoke(slow, arguments);
        } catch (IllegalAccessException | InvocationTargetException wrong) {
            throw new IllegalStateException(method.getName() + Arrays.toString(arguments), wrong);
        }
    }

    private void askAll(Object[] arguments, int at) {
        if (at == arguments.length) {
            ask(arguments);
        } else if (face.getParameterTypes()[at] == boolean.class) {
            arguments[at] = true;
            askAll(arguments, at + 1);
            arguments[at] = false;
            askAll(arguments, at + 1);
        } else {
            for (int value : arguments.length > 2 ? SOME : MANY) {
                arguments[at] = value;
                askAll(arguments, at + 1);
            }
        }
    }

    private void ask(Object[] arguments) {
        if (calls >= MOST_CALLS) {
            anew();
        }
        calls++;
        String words = Arrays.toString(arguments);
        String call = face.getName() + "(" + words.substring(1, words.length() - 1) + ")";
        due.is(call, plans.ask(call), invoke(slowFace, arguments));
    }
}
