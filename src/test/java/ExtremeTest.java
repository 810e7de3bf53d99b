import java.lang.reflect.InvocationTargetException;
import java.lang.reflect.Method;
import java.lang.reflect.Modifier;
import java.util.Arrays;
import java.util.List;
import java.util.NoSuchElementException;

/**
 * Every call of the face with the least, the greatest and the neighbouring numbers in every place, on
 * an empty object, an ordinary one and a full one: it answers or throws what the document declares for
 * it; a refusal is counted once, by its reason alone, and changes nothing.
 */
public final class ExtremeTest {
    private static final int MIN = Integer.MIN_VALUE;
    private static final int MAX = Integer.MAX_VALUE;
    private static final int[] MANY = {MIN, MIN + 1, -1000, -1, 0, 1, 2, 5, 6, 9, 10, 39, 40, 41, 998, 999, 1000, 1001,
        MAX - 1, MAX};
    private static final int[] SOME = {MIN, -1, 0, 1, 2, 39, 40, 999, 1000, MAX};
    private static final int[] FEW = {MIN, -1, 0, MAX};
    private static final List<Class<?>> REASONS = List.of(NoSuchElementException.class, IllegalArgumentException.class,
            IllegalStateException.class);

    private static int calls = 0;

    public static void main(String[] args) throws ReflectiveOperationException {
        for (Method m : SpeechTiers.class.getDeclaredMethods()) {
            if (Modifier.isPublic(m.getModifiers())) {
                for (int state = 0; state < 4; state++) {
                    tryAll(m, state);
                }
            }
        }
        System.out.println(calls + " calls");
        Check.due("calls were made", calls > 100_000 ? 1 : 0, 1);
        Check.finish();
    }

    private static SpeechTiers make(int state) {
        if (state == 0) {
            return new SpeechTiers();
        }
        String six = "tier a free;tier b cut a;tier c in a;tier d points a;tier e points;tier f free;";
        if (state == 1) {
            SpeechTiers x = Check.told(six + "mark a 0 5 k;mark a 5 10;mark a 40 999;split b 2;mark c 1 2;point d 5;point e 0;");
            x.put(5, 1, 40);
            return x;
        }
        SpeechTiers x = Check.told(six);
        Check.fill(x, 0);
        Check.fill(x, 2);
        Check.fill(x, 5);
        for (int i = 0; i < 40; i++) {
            x.point(3, 2 * i);
            x.point(4, 958 + i);
        }
        if (state == 3) {
            x.keep();
            x.silence(40, 2);
        }
        for (int i = 0; i < 21; i++) {
            x.feed(0x3b3b3b3b, MIN, MAX, -1, 0);
        }
        return x;
    }

    private static void tryAll(Method m, int state) throws ReflectiveOperationException {
        int count = m.getParameterCount();
        int[] values = count <= 2 ? MANY : count <= 4 ? SOME : FEW;
        int combinations = 1;
        for (int i = 0; i < count; i++) {
            combinations *= values.length;
        }
        SpeechTiers x = make(state);
        for (int c = 0; c < combinations; c++) {
            Object[] a = new Object[count];
            int rest = c;
            for (int i = 0; i < count; i++) {
                a[i] = values[rest % values.length];
                rest /= values.length;
            }
            long before = x.print();
            if (!tryOne(m, x, a)) {
                Check.wrong("in state " + state);
                return;
            }
            if (x.print() != before || m.getName().equals("text")) {
                x = make(state);
            }
        }
    }

    private static boolean tryOne(Method m, SpeechTiers x, Object[] a) throws ReflectiveOperationException {
        calls++;
        long[] before = look(x);
        int[] refused = {x.status(0), x.status(1), x.status(2)};
        Class<?> thrown = null;
        try {
            m.invoke(x, a);
        } catch (InvocationTargetException e) {
            thrown = e.getCause().getClass();
        }
        boolean asDue = thrown == null || Arrays.asList(m.getExceptionTypes()).contains(thrown);
        for (int reason = 0; reason < 3; reason++) {
            asDue &= x.status(reason) == refused[reason] + (REASONS.get(reason) == thrown ? 1 : 0);
        }
        asDue &= thrown == null || Arrays.equals(before, look(x));
        if (!asDue) {
            Check.wrong(m.getName() + Arrays.toString(a) + " threw " + thrown);
        }
        return asDue;
    }

    private static long[] look(SpeechTiers x) {
        return new long[] {x.print(), x.told(0), x.told(1), x.told(3), x.told(4), x.told(5), x.fault()};
    }
}
