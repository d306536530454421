import java.lang.reflect.InvocationTargetException;
import java.lang.reflect.Method;
import java.util.ArrayList;
import java.util.Comparator;
import java.util.List;
import java.util.Random;

/** Calls with any numbers: none throws, and what is refused changes nothing but the tape, as told. */
public final class AnyCallTest {
    private static final int[] WILD = {Integer.MIN_VALUE, Integer.MIN_VALUE + 1, -65536, -33, -5, -4, -1,
        0, 1, 2, 3, 4, 7, 8, 9, 11, 12, 15, 16, 23, 24, 31, 32, 40, 41, 99, 100, 255, 256, 511, 512, 4095,
        4096, 1 << 24, 1 << 30, Integer.MAX_VALUE - 1, Integer.MAX_VALUE};
    private static final Due due = new Due("AnyCallTest");
    private static final List<Method> METHODS = methods();

    public static void main(String[] args) throws IllegalAccessException {
        for (int seed = 1; seed <= 60; seed++) {
            run(seed);
        }
        due.close();
    }

    private static List<Method> methods() {
        List<Method> found = new ArrayList<>();
        for (Method m : WaysSung.class.getDeclaredMethods()) {
            if (java.lang.reflect.Modifier.isPublic(m.getModifiers())) {
                found.add(m);
            }
        }
        found.sort(Comparator.comparing(Method::getName));
        return found;
    }

    private static Object argument(Random random, Class<?> type) {
        if (type == boolean.class) {
            return random.nextBoolean();
        }
        if (type == long.class) {
            return random.nextLong();
        }
        int kind = random.nextInt(5);
        return kind == 0 ? WILD[random.nextInt(WILD.length)] : kind == 1 ? random.nextInt(40) : random.nextInt(4);
    }

    private static void run(int seed) throws IllegalAccessException {
        Random random = new Random(seed);
        WaysSung x = new WaysSung();
        String before = state(x);
        for (int i = 0; i < 512; i++) {
            Method m = METHODS.get(random.nextInt(METHODS.size()));
            Object[] args = new Object[m.getParameterCount()];
            for (int j = 0; j < args.length; j++) {
                args[j] = argument(random, m.getParameterTypes()[j]);
            }
            String call = "run " + seed + " " + m.getName() + java.util.Arrays.toString(args);
            int answer = 0;
            try {
                answer = (Integer) m.invoke(x, args);
            } catch (InvocationTargetException e) {
                due.is(call + " threw " + e.getCause(), 0, 1);
            }
            String after = state(x);
            boolean telling = m.getName().equals("rules");
            if (answer < 0 && !telling) {
                due.is(call + " was refused and changed something", 1, before.equals(after) ? 1 : 0);
            }
            if (telling) {
                due.is(call + " leaves bytes on the tape", 0, x.count(6));
            }
            before = after;
        }
    }

    /** All that can be asked, but for the cells of sheets, which only read() shows. */
    private static String state(WaysSung x) {
        StringBuilder s = new StringBuilder();
        for (int what = 0; what < 8; what++) {
            s.append(x.count(what)).append(' ');
            for (int n = 0; n < 24; n++) {
                s.append(x.placeOf(n, what)).append(' ').append(x.verseOf(n, what)).append(' ');
                s.append(x.oneOf(n, what)).append(' ');
            }
        }
        for (int what = 0; what < 54; what++) {
            s.append(x.rule(what)).append(' ');
        }
        return s.append(x.fault()).append(' ').append(x.torn()).toString();
    }
}
