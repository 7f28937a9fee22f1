import java.lang.reflect.InvocationTargetException;
import java.lang.reflect.Method;
import java.lang.reflect.Modifier;
import java.util.ArrayList;
import java.util.List;
import java.util.Random;

/** Any call with any arguments in any order ends with an answer, to the 512th and behind it. */
public final class NeverThrowsTest {
    private static final int RUNS = 3000;
    private static final int[] EDGES = {Integer.MIN_VALUE, Integer.MIN_VALUE + 1, -1000000000, -2, -1, 0, 1, 2, 9, 10, 39,
        40, 51, 52, 79, 80, 199, 200, 201, 300, 359, 360, 400, 3599, 3600, 9999, 10000, 1000000, 1000000000, 1000000001,
        1 << 30, Integer.MAX_VALUE - 1, Integer.MAX_VALUE};

    private static Object argument(Class<?> type, Random random) {
        if (type == boolean.class) {
            return random.nextBoolean();
        }
        switch (random.nextInt(4)) {
            case 0: return EDGES[random.nextInt(EDGES.length)];
            case 1: return random.nextInt();
            default: return random.nextInt(4);
        }
    }

    /** Half of what is fed is a text that stands, so that laws come to be. */
    private static void feedText(SupplyBook book, Random random) {
        String[] texts = {"b9;e9;m50;c50;d3", "o(a/q=1|!u1&l>5)", "s(k<5)3;x0.0;x1.1;t(h=0)", "n(y%r=0)"};
        String text = texts[random.nextInt(texts.length)];
        Due.feed(book, text);
        if (random.nextBoolean()) {
            book.law(0, 3599, text.length());
        } else {
            book.vote(0, 0, 100, 0, text.length());
        }
    }

    public static void main(String[] args) throws IllegalAccessException {
        List<Method> face = new ArrayList<>();
        for (Method m : SupplyBook.class.getDeclaredMethods()) {
            if (Modifier.isPublic(m.getModifiers())) {
                face.add(m);
            }
        }
        face.sort((a, b) -> a.getName().compareTo(b.getName()));
        for (int seed = 0; seed < RUNS; seed++) {
            Random random = new Random(seed);
            SupplyBook book = new SupplyBook();
            for (int call = 0; call < 600; call++) {
                if (random.nextInt(20) == 0) {
                    feedText(book, random);
                }
                Method m = face.get(random.nextInt(face.size()));
                Object[] given = new Object[m.getParameterCount()];
                for (int i = 0; i < given.length; i++) {
                    given[i] = argument(m.getParameterTypes()[i], random);
                }
                // time must not run out at once
                if (m.getName().equals("now") && random.nextInt(10) > 0) {
                    given[0] = book.count(0) + random.nextInt(60);
                }
                try {
                    m.invoke(book, given);
                } catch (InvocationTargetException e) {
                    System.out.println("run " + seed + ", " + m + " threw " + e.getCause());
                    System.exit(1);
                }
            }
        }
        System.out.println("NeverThrowsTest: " + RUNS + " runs, nothing thrown");
    }
}
