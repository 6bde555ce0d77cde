import java.lang.reflect.Method;
import java.lang.reflect.Modifier;

/** No call throws, for numbers far off in every place, on a new object and on a full one. */
public final class WildTest {
    private static final int[] NUMBERS = {Integer.MIN_VALUE, -1000001, -31, -2, -1, 0, 1, 2, 3, 4, 5, 6, 8, 16, 31, 60, 61, 64,
        1000, Integer.MAX_VALUE - 1, Integer.MAX_VALUE};
    private static final Due due = new Due("WildTest");

    public static void main(String[] args) {
        for (Method method : SkinLoads.class.getDeclaredMethods()) {
            if (Modifier.isPublic(method.getModifiers())) {
                due.is(method.getName() + " on a new object throws", throwsOn(new SkinLoads(), method), 0);
                due.is(method.getName() + " on a full object throws", throwsOn(full(), method), 0);
            }
        }
        due.end();
    }

    private static SkinLoads full() {
        SkinLoads x = new SkinLoads();
        Due.readDome(x, "r1,1w999;r9,2;r3,4w5;r0,1;r1,1;r1,1;r1,1;r99,1w999");
        x.rib(5);
        for (int k = 0; k < 8; k++) {
            x.joint(k % 6, (3 * k + k / 6) % 6, k > 3);
            x.sheet(k % 4, k % 3, 60);
        }
        for (int k = 0; k < 64; k++) {
            x.bar(k % 3, k % 8, k / 8, 1 + k);
            x.load(k % 6, k % 4, k % 30, -k % 29);
            x.sight(1 + k, 100 * k, 101 * k);
            x.hole(k / 8, k % 9, true);
        }
        return x;
    }

    private static int throwsOn(SkinLoads x, Method method) {
        Class<?>[] types = method.getParameterTypes();
        int ways = 1;
        for (Class<?> type : types) {
            ways *= type == boolean.class ? 2 : NUMBERS.length;
        }
        int thrown = 0;
        for (int way = 0; way < ways; way++) {
            Object[] arguments = new Object[types.length];
            int rest = way;
            for (int k = 0; k < types.length; k++) {
                boolean isBoolean = types[k] == boolean.class;
                int choices = isBoolean ? 2 : NUMBERS.length;
                arguments[k] = isBoolean ? (Object) (rest % choices == 1) : (Object) NUMBERS[rest % choices];
                rest /= choices;
            }
            try {
                method.invoke(x, arguments);
            } catch (ReflectiveOperationException e) {
                thrown++;
            }
        }
        return thrown;
    }
}
