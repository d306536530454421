import java.lang.reflect.Method;
import java.lang.reflect.Modifier;
import java.util.ArrayList;
import java.util.Arrays;
import java.util.Comparator;
import java.util.List;
import java.util.Random;

/**
 * "What is refused changes nothing (but THE TAPE, as told)": two objects, one of which is spared the calls
 * that are refused, must answer alike for good; so cells of sheets are seen, too, which nothing shows at once.
 */
public final class RefusedTest {
    private static final int[] WILD = {Integer.MIN_VALUE, -20, -5, -4, -3, -2, -1, 10, 12, 16, 24, 25, 41, 100, 512,
        Integer.MAX_VALUE};
    private static final String[] TEXTS = {"sing 5;", "carry 9;hear 0 1;", "pair 0 1;dry 0 2;tell 3;", "sing 5;sing 6;",
        "hear 0 1;?", "dry 0 1;dry 12 1;", "pair 1 1;", "tell 3", "carry 2;pair 2 3;;"};
    private static final Due due = new Due("RefusedTest");
    private static final List<Method> METHODS = methods();

    public static void main(String[] args) throws ReflectiveOperationException {
        int refused = 0;
        for (int seed = 1; seed <= 300; seed++) {
            refused += run(seed);
        }
        due.is("many were refused", 1, refused > 10000 ? 1 : 0);
        due.close();
    }

    private static List<Method> methods() {
        List<Method> found = new ArrayList<>();
        for (Method m : WaysSung.class.getDeclaredMethods()) {
            if (Modifier.isPublic(m.getModifiers()) && !m.getName().equals("rules")) {
                found.add(m);
            }
        }
        found.sort(Comparator.comparing(Method::getName));
        return found;
    }

    private static Object argument(Random random, Class<?> type) {
        if (type == boolean.class) {
            return random.nextInt(4) > 0;
        }
        if (type == long.class) {
            return 0x2020202020202020L;
        }
        int kind = random.nextInt(9);
        return kind == 0 ? WILD[random.nextInt(WILD.length)] : kind < 3 ? random.nextInt(12) : random.nextInt(3);
    }

    /** How many calls the one object was spared. */
    private static int run(int seed) throws ReflectiveOperationException {
        Random random = new Random(seed);
        WaysSung all = new WaysSung();
        WaysSung spared = new WaysSung();
        begin(all);
        begin(spared);
        int refused = 0;
        for (int i = 0; i < 400; i++) {
            if (random.nextInt(30) == 0) {
                rules(random, all, spared);
                continue;
            }
            Method m = METHODS.get(random.nextInt(METHODS.size()));
            Object[] args = new Object[m.getParameterCount()];
            for (int j = 0; j < args.length; j++) {
                args[j] = argument(random, m.getParameterTypes()[j]);
            }
            int answer = (Integer) m.invoke(all, args);
            if (answer < 0) {
                refused++;
            } else {
                due.is("run " + seed + " " + m.getName() + Arrays.toString(args), (Integer) m.invoke(spared, args), answer);
            }
        }
        return refused;
    }

    private static void begin(WaysSung x) {
        for (int i = 0; i < 3; i++) {
            x.place(i, 15);
            x.verse(0, i, i, 1, -4);
            x.verse(1, i, i, 1, i);
            x.one(i, 18 + i, 7);
        }
    }

    /** A text with a fault leaves the rules that held, an empty tape and its fault. */
    private static void rules(Random random, WaysSung all, WaysSung spared) {
        String text = TEXTS[random.nextInt(TEXTS.length)];
        all.end(0);
        spared.end(0);
        due.is(text, Due.rules(spared, text), Due.rules(all, text));
    }
}
