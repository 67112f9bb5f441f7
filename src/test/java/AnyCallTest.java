import java.lang.reflect.InvocationTargetException;
import java.lang.reflect.Method;
import java.lang.reflect.Modifier;
import java.util.ArrayList;
import java.util.Arrays;
import java.util.Comparator;
import java.util.List;
import java.util.Random;

/**
 * Rules 6 and 7 of LANGUAGE.md: whatever the arguments and the state, behind the 512th call too, a call ends, and
 * throws nothing but what the document names.
 */
public final class AnyCallTest {
    private static final int[] FAR = {-2, 5, 12, 13, 19, 20, 24, 99, 100, 255, 256, 399, 400, 401, 0x01020304,
        Integer.MIN_VALUE, Integer.MAX_VALUE};
    private static final Checks CHECKS = new Checks();

    private final Random random;
    private final DeltaHistory history = new DeltaHistory();

    private AnyCallTest(int seed) {
        random = new Random(seed);
    }

    public static void main(String[] args) {
        List<Method> face = new ArrayList<>();
        for (Method method : DeltaHistory.class.getDeclaredMethods()) {
            if (Modifier.isPublic(method.getModifiers())) {
                face.add(method);
            }
        }
        face.sort(Comparator.comparing(Method::getName));
        for (int seed = 0; seed < 200; seed++) {
            AnyCallTest run = new AnyCallTest(seed);
            for (int call = 1; call <= 3000; call++) {
                Method method = face.get(run.random.nextInt(face.size()));
                Object[] values = run.values(method);
                String of = "seed " + seed + ", call " + call + ": " + method.getName() + Arrays.toString(values);
                CHECKS.due(of, "as named", () -> run.howItEnds(method, values));
            }
        }
        CHECKS.end();
    }

    private Object[] values(Method method) {
        Object[] values = new Object[method.getParameterCount()];
        for (int k = 0; k < values.length; k++) {
            boolean isInt = method.getParameterTypes()[k] == int.class;
            values[k] = isInt ? (Object) number() : (Object) random.nextBoolean();
        }
        return values;
    }

    private int number() {
        return random.nextInt(5) == 0 ? FAR[random.nextInt(FAR.length)] : random.nextInt(5) - 1;
    }

    private String howItEnds(Method method, Object[] values) throws IllegalAccessException {
        try {
            method.invoke(history, values);
            return "as named";
        } catch (InvocationTargetException e) {
            Class<?> thrown = e.getCause().getClass();
            return Arrays.asList(method.getExceptionTypes()).contains(thrown) ? "as named" : thrown.getName();
        }
    }
}
