import java.lang.reflect.InvocationTargetException;
import java.lang.reflect.Method;
import java.util.ArrayList;
import java.util.Comparator;
import java.util.List;
import java.util.Random;

/** Any calls with any arguments: none throws, and the same calls on another object answer the same. */
public final class AnyCallsTest {
    private static final Check CHECK = new Check();
    private static final int[] EDGES = {-1, 0, 1, 2, 3, 4, 5, 8, 16, 20, 31, 32, 50, 99, 100, 200, 255, 400, 500, 999,
        1000, 1600, 4000, -1000, Integer.MAX_VALUE, Integer.MIN_VALUE};
    private static final String[] TEXTS = {
        "roll 100 5\ncut 50 3\ncut 30 4\ncut 20 2\n", "roll 400 6\ncut 10 4\ncut 11 4\ncut 12 4\ncut 13 4\n",
        "sheet 2 2\nfold lt\n", "sheet 8 8\nfold lrltbt\n", "sheet 1 1\nfold \n", "sheet 4 1\nfold bt\n",
        "box 0 0 4 4 16\nline 0 7 7 7 5\n", "box 3 3 8 8 9\n", "line 2 0 2 7 12\nline 7 4 0 4 3\n",
        "the quick brown fox\n", "a b c d e f g h i j k l\n", "mmmmmmmm wwwwww iiii\n",
        "x 0 3\ny 1 2\nx 0 1\n", "y 0 1\n", "", "1 2 3\n", "1\n", "1 2 4\n",
        "10001 a\n10001 b\n10002 c\n", "10099 z\n20000 y9\n10001 a\n", "00000 abcdefgh\n"};

    public static void main(String[] args) throws Exception {
        List<Method> methods = new ArrayList<>();
        for (Method m : PaperHouse.class.getDeclaredMethods()) {
            if (java.lang.reflect.Modifier.isPublic(m.getModifiers())) {
                methods.add(m);
            }
        }
        methods.sort(Comparator.comparing(Method::getName));
        for (int run = 0; run < 1500; run++) {
            same(methods, run);
        }
        CHECK.finish();
    }

    private static void same(List<Method> methods, int seed) throws Exception {
        PaperHouse one = new PaperHouse();
        PaperHouse other = new PaperHouse();
        Random random = new Random(seed);
        for (int call = 0; call < House.MOST_CALLS; call++) {
            if (random.nextInt(5) == 0) {
                byte[] text = text(random);
                int[] ints = Check.ints(text);
                call += ints.length / 5 + 2;
                if (call >= House.MOST_CALLS) {
                    return;
                }
                feed(one, ints, text.length);
                feed(other, ints, text.length);
            }
            Method m = methods.get(random.nextInt(methods.size()));
            Object[] values = new Object[m.getParameterCount()];
            for (int i = 0; i < values.length; i++) {
                values[i] = value(random);
            }
            CHECK.due(m.getName(), answer(m, one, values), answer(m, other, values));
        }
    }

    private static void feed(PaperHouse x, int[] ints, int length) {
        x.end(0);
        for (int i = 0; i + 4 < ints.length; i += 5) {
            x.feed(ints[i], ints[i + 1], ints[i + 2], ints[i + 3], ints[i + 4]);
        }
        x.end(length);
    }

    private static int value(Random random) {
        switch (random.nextInt(4)) {
            case 0: return EDGES[random.nextInt(EDGES.length)];
            case 1: return random.nextInt(30);
            case 2: return random.nextInt(4);
            default: return random.nextInt(300) - 20;
        }
    }

    private static byte[] text(Random random) {
        StringBuilder text = new StringBuilder(TEXTS[random.nextInt(TEXTS.length)]);
        if (random.nextInt(4) == 0) {
            for (int i = random.nextInt(3); i >= 0; i--) {
                int at = random.nextInt(text.length() + 1);
                text.insert(at, (char) (random.nextBoolean() ? random.nextInt(256) : "0 1\n9ax"
                        .charAt(random.nextInt(7))));
            }
            text.setLength(random.nextInt(text.length() + 1));
        }
        if (random.nextInt(40) == 0) {
            while (text.length() < 1500) {
                text.append(text).append(' ');
            }
            text.setLength(1600 - random.nextInt(50));
        }
        return text.toString().getBytes(java.nio.charset.StandardCharsets.ISO_8859_1);
    }

    private static int answer(Method m, PaperHouse x, Object[] values) throws Exception {
        try {
            return (Integer) m.invoke(x, values);
        } catch (InvocationTargetException e) {
            CHECK.due(m.getName() + java.util.Arrays.toString(values) + " threw " + e.getCause(), false);
            return 0;
        }
    }
}
