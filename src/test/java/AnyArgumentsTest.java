import java.lang.reflect.Method;
import java.lang.reflect.Modifier;
import java.util.ArrayList;
import java.util.Comparator;
import java.util.List;

// Any call with any arguments, in any state: each answers, and none throws.
public final class AnyArgumentsTest {
    private static final int OBJECTS = 400, CALLS = 512;
    private static final int[] ODD = {Integer.MIN_VALUE, Integer.MIN_VALUE + 1, -10003, -61, -32, -10, -4, -3, -2, -1, 8, 9,
        10, 21, 30, 31, 40, 60, 61, 99, 100, 255, 256, 9999, 10000, 1 << 16, 1 << 30, Integer.MAX_VALUE - 1,
        Integer.MAX_VALUE};
    private static long lot = 42;

    private static int lotOf(int m) {
        lot = lot * 6364136223846793005L + 1442695040888963407L;
        return (int) ((lot >>> 33) % m);
    }

    // Small numbers keep the state moving; letters make rolls.
    private static int argument(String call) {
        int kind = lotOf(8);
        if (kind == 0) {
            return ODD[lotOf(ODD.length)];
        }
        return call.equals("type") && kind < 7 ? "ewns".charAt(lotOf(4)) : lotOf(kind < 6 ? 4 : 13);
    }

    public static void main(String[] args) throws Exception {
        List<Method> calls = new ArrayList<>();
        for (Method m : BoxSpider.class.getDeclaredMethods()) {
            if (Modifier.isPublic(m.getModifiers())) {
                calls.add(m);
            }
        }
        calls.sort(Comparator.comparing(Method::getName));
        for (int object = 0; object < OBJECTS; object++) {
            BoxSpider b = new BoxSpider();
            for (int n = 0; n < CALLS; n++) {
                Method m = calls.get(lotOf(calls.size()));
                if (m.getName().equals("wipe") && lotOf(8) > 0) {
                    continue;
                }
                Object[] values = new Object[m.getParameterCount()];
                for (int i = 0; i < values.length; i++) {
                    values[i] = argument(m.getName());
                }
                m.invoke(b, values);
            }
        }
        System.out.println("every call answers");
    }
}
