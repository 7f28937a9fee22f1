import java.lang.reflect.InvocationTargetException;
import java.lang.reflect.Method;
import java.lang.reflect.Modifier;
import java.util.ArrayList;
import java.util.List;
import java.util.Random;

/**
 * 512 calls each of any method, with arguments at and beside the edges of all that the document counts: each answer
 * set against that of the model in RandomRunsTest, which has the same methods.
 */
public final class AnyArgumentsTest {
    private static final int RUNS = 1500;
    private static final int CALLS = 512;
    private static final int[] EDGES = {Integer.MIN_VALUE, -1000000001, -3, -2, -1, 0, 1, 2, 3, 4, 5, 6, 8, 9, 10, 11,
        12, 13, 14, 15, 16, 19, 20, 29, 30, 33, 34, 39, 40, 50, 51, 52, 79, 80, 99, 100, 101, 199, 200, 201, 299, 300,
        301, 359, 360, 361, 400, 511, 512, 719, 720, 3598, 3599, 3600, 9998, 9999, 10000, 999999, 1000000, 1000001,
        999999999, 1000000000, 1000000001, Integer.MAX_VALUE};
    private static final String[] TEXTS = {"b999999;e999999;m100;c100;d0", "b1;e1;m0;c0;d359", "m50;c99;d3;e20;b20",
        "o(a>0)", "n(a=2|q>3)", "s(k<5&!u1)3", "x0.0;x1.1;x2.2;t(h=0)", "n(y%r=0)", "t(l<a*2);o(1/[a-1]<9|a=1)",
        "m101", "o(u40)", "s(a=1)0", "x20.0"};

    private final Random random;
    private final SupplyBook book = new SupplyBook();
    private final RandomRunsTest.Model model = new RandomRunsTest.Model();
    private final StringBuilder log = new StringBuilder();
    private int calls = 0;

    private AnyArgumentsTest(int seed) {
        random = new Random(seed);
    }

    private static List<Method[]> face() throws NoSuchMethodException {
        List<Method[]> pairs = new ArrayList<>();
        for (Method m : SupplyBook.class.getDeclaredMethods()) {
            if (Modifier.isPublic(m.getModifiers())) {
                pairs.add(new Method[] {m,
                    RandomRunsTest.Model.class.getDeclaredMethod(m.getName(), m.getParameterTypes())});
            }
        }
        pairs.sort((a, b) -> a[0].getName().compareTo(b[0].getName()));
        return pairs;
    }

    private static long number(Object answer) {
        return answer instanceof Boolean ? (Boolean) answer ? 1 : 0 : ((Number) answer).longValue();
    }

    private Object argument(Class<?> type) {
        if (type == boolean.class) {
            return random.nextBoolean();
        }
        switch (random.nextInt(8)) {
            case 0: return EDGES[random.nextInt(EDGES.length)];
            case 1: return random.nextInt(20) - 1;
            case 2: return random.nextInt(2000);
            default: return random.nextInt(3);
        }
    }

    /** Whether both answer alike. */
    private boolean both(Method[] pair, Object... given) throws IllegalAccessException {
        calls++;
        log.append(pair[0].getName()).append(java.util.Arrays.toString(given));
        try {
            long got = number(pair[0].invoke(book, given));
            long want = number(pair[1].invoke(model, given));
            log.append(" -> ").append(got).append(got == want ? "\n" : ", due is " + want + "\n");
            return got == want;
        } catch (InvocationTargetException e) {
            log.append(" threw ").append(e.getCause()).append('\n');
            return false;
        }
    }

    private static Method[] named(List<Method[]> face, String name) {
        for (Method[] pair : face) {
            if (pair[0].getName().equals(name)) {
                return pair;
            }
        }
        return face.get(0);
    }

    /** Feeds a text, and makes a law or words of it. */
    private boolean tell(List<Method[]> face) throws IllegalAccessException {
        String text = TEXTS[random.nextInt(TEXTS.length)];
        boolean alike = both(named(face, "check"), 0, 0);
        for (int i = 0; i < text.length(); i += 20) {
            Object[] x = new Object[5];
            for (int j = 0; j < 5; j++) {
                int four = 0;
                for (int k = 0; k < 4; k++) {
                    int at = i + 4 * j + k;
                    four = four << 8 | (at < text.length() ? text.charAt(at) : ' ');
                }
                x[j] = four;
            }
            alike &= both(named(face, "feed"), x);
        }
        if (random.nextBoolean()) {
            return alike & both(named(face, "law"), random.nextInt(3), 3599, text.length());
        }
        return alike & both(named(face, "vote"), 0, 0, EDGES[random.nextInt(EDGES.length)], 0, text.length());
    }

    private boolean run(List<Method[]> face) throws IllegalAccessException {
        boolean alike = true;
        boolean isSlow = random.nextInt(10) > 0;
        while (calls < CALLS && alike) {
            Method[] pair = face.get(random.nextInt(face.size()));
            String name = pair[0].getName();
            if (random.nextInt(25) == 0) {
                alike = tell(face);
                continue;
            }
            if ((name.equals("cut") || name.equals("more")) && model.items.size() > 9 && random.nextInt(20) > 0) {
                continue;
            }
            Object[] given = new Object[pair[0].getParameterCount()];
            for (int i = 0; i < given.length; i++) {
                given[i] = argument(pair[0].getParameterTypes()[i]);
            }
            if (name.equals("now") && (isSlow || random.nextInt(10) > 0)) {
                given[0] = model.day + random.nextInt(random.nextInt(8) == 0 ? 362 : 8);
            }
            if (name.equals("claim") && random.nextInt(3) > 0) {
                given[4] = SupplyBook.NONE;
            }
            alike = both(pair, given);
        }
        return alike;
    }

    public static void main(String[] args) throws ReflectiveOperationException {
        int runs = args.length > 0 ? Integer.parseInt(args[0]) : RUNS;
        List<Method[]> face = face();
        for (int seed = 0; seed < runs; seed++) {
            AnyArgumentsTest test = new AnyArgumentsTest(seed);
            if (!test.run(face)) {
                System.out.println("run of seed " + seed + ":\n" + test.log);
                System.exit(1);
            }
        }
        System.out.println("AnyArgumentsTest: " + runs + " runs of " + CALLS + " calls are as the model says");
    }
}
