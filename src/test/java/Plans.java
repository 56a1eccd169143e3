import java.lang.reflect.InvocationTargetException;
import java.lang.reflect.Method;
import java.util.HashMap;
import java.util.Map;

/** A FloorPlans whose calls are written as text, and which is never asked more than the document's 512 times. */
final class Plans {
    static final int MOST_CALLS = 512;
    private static final Map<String, Method> FACE = new HashMap<>();

    static {
        for (Method method : FloorPlans.class.getMethods()) {
            if (method.getDeclaringClass() == FloorPlans.class) {
                FACE.put(method.getName(), method);
            }
        }
    }

    private final FloorPlans plans = new FloorPlans();
    private int calls = 0;

    /** Asks a call such as "two(0, 1, 0, 99)"; least and most stand for the ends of int. */
    int ask(String call) {
        calls++;
        if (calls > MOST_CALLS) {
            throw new IllegalStateException("a test makes more than 512 calls: " + call);
        }
        int open = call.indexOf('(');
        int close = call.indexOf(')');
        Method method = open < 0 ? null : FACE.get(call.substring(0, open).trim());
        if (method == null || close < open) {
            throw new IllegalArgumentException("no call: " + call);
        }
        String inside = call.substring(open + 1, close).trim();
        String[] words = inside.isEmpty() ? new String[0] : inside.split(",");
        Object[] arguments = new Object[words.length];
        for (int i = 0; i < words.length; i++) {
            arguments[i] = argument(words[i].trim());
        }
        try {
            return (Integer) method.invoke(plans, arguments);
        } catch (IllegalAccessException | InvocationTargetException wrong) {
            throw new IllegalStateException(call, wrong);
        }
    }

    private static Object argument(String word) {
        switch (word) {
            case "true": return true;
            case "false": return false;
            case "least": return Integer.MIN_VALUE;
            case "most": return Integer.MAX_VALUE;
            default: return Integer.valueOf(word);
        }
    }
}
