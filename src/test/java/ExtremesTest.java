import java.lang.reflect.InvocationTargetException;
import java.lang.reflect.Method;
import java.lang.reflect.Modifier;
import java.util.function.Supplier;

/** Numbers far outside: every call is refused as told, throws nothing and changes nothing. */
public final class ExtremesTest {
    private static final int[] FAR = {
        Integer.MIN_VALUE, Integer.MIN_VALUE + 1, -1_000_000, -256, -33, -32, 32, 33, 64, 256, 257, 65536,
        1 << 30, Integer.MAX_VALUE - 1, Integer.MAX_VALUE};
    private static final Check CHECK = new Check();

    public static void main(String[] args) throws IllegalAccessException, InvocationTargetException {
        all(FerriesLevel::new);
        all(() -> Check.ferry("B33389" + "P9993".repeat(8)));
        all(() -> Check.ferry("B21180P1013P1013P2023"));
        all(Check::eightBoats);
        CHECK.end("ExtremesTest");
    }

    /** An object for each call, since one is good for 512 calls. */
    private static void all(Supplier<FerriesLevel> made) throws IllegalAccessException, InvocationTargetException {
        String before = Seen.of(made.get());
        for (Method m : FerriesLevel.class.getDeclaredMethods()) {
            boolean takes = m.getParameterCount() > 0 && Modifier.isPublic(m.getModifiers());
            for (int i = 0; takes && i < FAR.length; i++) {
                FerriesLevel x = made.get();
                int answer = call(x, m, FAR[i]);
                CHECK.holds(m.getName() + " of " + FAR[i] + " answered " + answer, refused(m, FAR[i], answer));
                CHECK.same("all behind " + m.getName() + " of " + FAR[i], before, Seen.of(x));
            }
        }
    }

    private static int call(FerriesLevel x, Method m, int far) throws IllegalAccessException, InvocationTargetException {
        if (m.getParameterCount() == 1) {
            return (Integer) m.invoke(x, far);
        }
        if (m.getName().equals("write")) {
            return (Integer) m.invoke(x, far, (long) far);
        }
        return (Integer) m.invoke(x, far, far);
    }

    private static boolean refused(Method m, int far, int answer) {
        boolean pounds = m.getName().equals("makes") && far >= 1 && far <= 99;
        boolean other = "write boat minutes off makes crossings count".contains(m.getName());
        return pounds ? answer >= 0 : answer == (other ? FerriesLevel.OUTSIDE : FerriesLevel.UNKNOWN);
    }
}
