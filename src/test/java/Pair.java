import java.lang.reflect.Method;
import java.util.Arrays;
import java.util.HashMap;
import java.util.Map;

/** An object of the program and one of the model, which are asked the same and must answer the same. */
final class Pair {
    /** An object is used for so many calls; what later ones answer is free. */
    static final int CALLS = 512;
    private static final Map<String, Method> PROGRAM = methodsOf(CabbageCradles.class);
    private static final Map<String, Method> MODEL = methodsOf(Model.class);

    private final CabbageCradles program = new CabbageCradles();
    private final Model model = new Model();
    private final String name;
    private final Check check;
    private int asked = 0;

    Pair(String name, Check check) {
        this.name = name;
        this.check = check;
    }

    private static Map<String, Method> methodsOf(Class<?> c) {
        Map<String, Method> methods = new HashMap<>();
        for (Method m : c.getDeclaredMethods()) methods.put(m.getName(), m);
        return methods;
    }

    int asked() {
        return asked;
    }

    /** Of the numbers given a call takes as many as it wants; it answers what the model does. */
    long call(String call, int... given) {
        if (asked >= CALLS) return 0;
        asked++;
        int[] numbers = Arrays.copyOf(given, PROGRAM.get(call).getParameterCount());
        long want = answer(MODEL.get(call), model, numbers);
        long got = answer(PROGRAM.get(call), program, numbers);
        check.due(name + ": " + call + Arrays.toString(numbers), want, got);
        return want;
    }

    void type(int text, String all) {
        for (int i = 0; i < all.length(); i++) call("type", text, all.charAt(i));
    }

    private static long answer(Method m, Object asked, int[] numbers) {
        Object[] given = new Object[numbers.length];
        for (int i = 0; i < numbers.length; i++) given[i] = numbers[i];
        try {
            return ((Number) m.invoke(asked, given)).longValue();
        } catch (ReflectiveOperationException e) {
            throw new IllegalStateException(m.getName() + Arrays.toString(numbers), e.getCause() == null ? e : e.getCause());
        }
    }
}
