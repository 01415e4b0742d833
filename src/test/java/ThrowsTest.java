import java.lang.reflect.InvocationTargetException;
import java.lang.reflect.Method;
import java.lang.reflect.Modifier;
import java.util.Arrays;
import java.util.List;
import java.util.function.Supplier;

/**
 * 'The public face' says what each method may throw: whatever the arguments and whatever was ahead of the call, it answers,
 * or throws one of these, and of no class below it, as the machine would.
 */
final class ThrowsTest {
    private static final int[] MANY = {Integer.MIN_VALUE, Integer.MIN_VALUE + 1, -2, -1, 0, 1, 2, 3, 4, 5, 6, 7, 8, 9, 11, 12, 13, 14, 15,
        16, 20, 40, 41, 59, 60, 61, 99, 100, 101, 200, 201, 400, 401, 999, 1000, 9999, Integer.MAX_VALUE - 1, Integer.MAX_VALUE};
    private static final int[] SOME = {Integer.MIN_VALUE, -1, 0, 1, 3, 4, 7, 8, 60, 61, Integer.MAX_VALUE};
    private static final int[] FEW = {Integer.MIN_VALUE, 0, Integer.MAX_VALUE};
    private static final String LAW = "bird 30 if dog or not noted and (step + old > 2);break 40 if fresh > 1 or week < 3;sour 1 if old > 5";
    private static final int CALLS_OF_ONE = 100;
    private static final Check check = new Check();

    private static MilkDays full() {
        MilkDays x = Check.suburb("road 0 1 long 1;road 1 2 long 2;road 2 3 long 3;road 3 0 long 4;road 5 6 long 9;birds 20;frost 30;charge 90",
            "step at 0 credit 20 fresh 9;step at 1 credit 0 note 0;step at 2 credit 999 kind 3 fresh 3 note 6 dog;step at 3 credit 5;"
                + "step at 5 credit 7 fresh 9;step at 6 credit 7 dog;step at 11 credit 0 fresh 1;step at 2 credit 3 kind 3");
        Check.law(x, LAW).mornings(9);
        return x;
    }

    private static MilkDays worn() {
        MilkDays x = full();
        for (int i = 0; i < 9; i++) Check.put(x, "day " + i).suburb();
        x.image();
        for (int i = 0; i < 13; i++) x.mornings(60 - i);
        return Check.put(x, "step at 0 credit 1 dog;;".repeat(16));
    }

    private static final List<Supplier<MilkDays>> STATES = List.of(MilkDays::new,
        () -> Check.suburb("step at 1 credit 9 fresh 2;road 0 1 long 9"),
        () -> Check.put(new MilkDays(), "\0\1\0\1"), ThrowsTest::full, ThrowsTest::worn);

    private static int[] numbers(int parameters) {
        return parameters <= 2 ? MANY : parameters == 3 ? SOME : FEW;
    }

    private static void call(MilkDays x, Method m, Object[] arguments) {
        String threw = "";
        try {
            m.invoke(x, arguments);
        } catch (InvocationTargetException e) {
            Class<?> c = e.getCause().getClass();
            threw = Arrays.asList(m.getExceptionTypes()).contains(c) ? "" : c.getName();
        } catch (IllegalAccessException e) {
            threw = e.toString();
        }
        check.same(m.getName() + Arrays.toString(arguments) + " throws", threw, "");
    }

    private static void all(Method m, Supplier<MilkDays> state) {
        Class<?>[] types = m.getParameterTypes();
        int[] numbers = numbers(types.length);
        long calls = 1;
        for (Class<?> type : types) calls *= type == int.class ? numbers.length : 2;
        MilkDays x = null;
        for (long i = 0; i < calls; i++) {
            if (i % CALLS_OF_ONE == 0) x = state.get();
            Object[] arguments = new Object[types.length];
            long rest = i;
            for (int k = 0; k < types.length; k++) {
                boolean number = types[k] == int.class;
                int sorts = number ? numbers.length : 2;
                arguments[k] = number ? (Object) numbers[(int) (rest % sorts)] : (Object) (rest % sorts == 1);
                rest /= sorts;
            }
            call(x, m, arguments);
        }
    }

    public static void main(String[] args) {
        for (Method m : MilkDays.class.getDeclaredMethods()) {
            if (!Modifier.isPublic(m.getModifiers())) continue;
            for (Supplier<MilkDays> state : STATES) all(m, state);
        }
        check.end("ThrowsTest");
    }
}
