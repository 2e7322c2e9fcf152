import java.lang.reflect.InvocationTargetException;
import java.lang.reflect.Method;
import java.lang.reflect.Modifier;

/** Numbers far outside: every call is refused as told, throws nothing and changes nothing. */
public final class ExtremesTest {
    private static final int[] FAR = {
        Integer.MIN_VALUE, Integer.MIN_VALUE + 1, -1_000_000, -256, -33, -32, 32, 33, 64, 256, 257, 65536,
        1 << 30, Integer.MAX_VALUE - 1, Integer.MAX_VALUE};
    private static final Check CHECK = new Check();

    public static void main(String[] args) throws IllegalAccessException, InvocationTargetException {
        all(new FerriesLevel());
        all(Check.ferry("B33389" + "P9993".repeat(8)));
        all(Check.ferry("B21180P1013P1013P2023"));
        FerriesLevel left = Check.ferry("B21119" + "P0911".repeat(8));
        for (int p = 0; p < 8; p++) {
            left.lay(p, 1);
            left.leave();
        }
        all(left);
        CHECK.end("ExtremesTest");
    }

    private static void all(FerriesLevel x) throws IllegalAccessException, InvocationTargetException {
        x.keep(0);
        for (Method m : FerriesLevel.class.getDeclaredMethods()) {
            boolean takes = m.getParameterCount() > 0 && Modifier.isPublic(m.getModifiers());
            for (int i = 0; takes && i < FAR.length; i++) {
                String before = seen(x);
                int answer = call(x, m, FAR[i]);
                CHECK.holds(m.getName() + " of " + FAR[i] + " answered " + answer, refused(m, FAR[i], answer));
                CHECK.holds(m.getName() + " of " + FAR[i] + " changes nothing", before.equals(seen(x)));
            }
        }
    }

    private static int call(FerriesLevel x, Method m, int far) throws IllegalAccessException, InvocationTargetException {
        if (m.getParameterCount() == 1) {
            return (Integer) m.invoke(x, far);
        }
        if (m.getName().equals("write")) {
            return (Integer) m.invoke(x, far, (long) far);
        }
        return (Integer) m.invoke(x, far, far);
    }

    private static boolean refused(Method m, int far, int answer) {
        boolean pounds = m.getName().equals("makes") && far >= 1 && far <= 99;
        boolean other = "write boat minutes off makes crossings count".contains(m.getName());
        return pounds ? answer >= 0 : answer == (other ? FerriesLevel.OUTSIDE : FerriesLevel.UNKNOWN);
    }

    private static String seen(FerriesLevel x) {
        StringBuilder b = new StringBuilder();
        for (int what = 0; what < 7; what++) {
            b.append(x.boat(what)).append(' ').append(x.count(what)).append(' ');
        }
        for (int p = 0; p < 8; p++) {
            for (int what = 0; what < 6; what++) {
                b.append(x.person(p, what)).append(' ');
            }
            b.append(x.left(p, 1)).append(' ');
        }
        return b.append(x.best()).append(' ').append(x.fits()).toString();
    }
}
