import java.lang.reflect.InvocationTargetException;
import java.lang.reflect.Method;
import java.util.Arrays;
import java.util.Comparator;
import java.util.Random;

/** Every call with arguments from all over: none throws, each answers as the Oracle does. */
public final class WildTest {
    private static final int[] WILD = {Integer.MIN_VALUE, Integer.MIN_VALUE + 9, -1000000, -101, -33, -32, -31, -11, -10, -2, -1, 0, 1, 2, 3, 4, 5, 6, 7,
        8, 9, 10, 11, 12, 15, 16, 24, 25, 26, 31, 32, 33, 39, 40, 41, 59, 60, 61, 63, 64, 65, 98, 99, 100, 101, 255, 256, 900, 901, 999, 1000, 1001,
        65536, 1 << 30, Integer.MAX_VALUE - 9, Integer.MAX_VALUE};

    private static Object[] wild(Method m, Random dice) {
        Object[] args = new Object[m.getParameterCount()];
        for (int i = 0; i < args.length; i++) {
            int v = WILD[dice.nextInt(WILD.length)];
            if (dice.nextInt(2) == 0) {
                v = dice.nextInt(6);
            }
            args[i] = m.getParameterTypes()[i] == long.class ? (Object) (long) v : (Object) v;
        }
        return args;
    }

    public static void main(String[] args) throws ReflectiveOperationException {
        Method[] calls = Arrays.stream(SandHold.class.getDeclaredMethods())
            .filter(m -> java.lang.reflect.Modifier.isPublic(m.getModifiers()))
            .sorted(Comparator.comparing(Method::getName)).toArray(Method[]::new);
        Check.due("calls of the face", calls.length, 46 - 1);
        Random dice = new Random(4);
        String[] texts = {"shore rows 5 columns 5;house 24 owner 4;plot 24 minutes 9 worth 9;paper 0 24;gale 5;washes:height-1;",
            "shore rows 1 columns 1;", "shore rows 3 columns 2;tide:minute*minute*minute*minute-moon;washes:0-height;house 0 owner 0;"};
        for (int run = 0; run < 90; run++) {
            SandHold x = new SandHold();
            Oracle o = new Oracle();
            byte[] text = Check.padded(texts[run % 3]);
            for (int i = 0; i < text.length; i += 20) {
                int[] f = {Check.four(text, i), Check.four(text, i + 4), Check.four(text, i + 8), Check.four(text, i + 12), Check.four(text, i + 16)};
                x.feed(f[0], f[1], f[2], f[3], f[4]);
                o.feed(f[0], f[1], f[2], f[3], f[4]);
            }
            x.shore(text.length);
            o.shore(text.length);
            for (int i = 0; i < 400; i++) {
                Method m = calls[dice.nextInt(calls.length)];
                Object[] a = wild(m, dice);
                String call = m.getName() + Arrays.toString(a);
                Object want = Oracle.class.getDeclaredMethod(m.getName(), m.getParameterTypes()).invoke(o, a);
                try {
                    Check.due(call, ((Number) m.invoke(x, a)).longValue(), ((Number) want).longValue());
                } catch (InvocationTargetException thrown) {
                    Check.dueTrue(call + " threw " + thrown.getCause(), false);
                }
            }
        }
        Check.end("WildTest");
    }
}
