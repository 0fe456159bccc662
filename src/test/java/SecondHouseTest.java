import java.lang.reflect.Method;
import java.nio.charset.StandardCharsets;
import java.util.ArrayList;
import java.util.List;
import java.util.Map;
import java.util.Random;
import java.util.Set;

/** Runs of up to 512 calls of all parts in turn: each answer is that of the second house. */
public final class SecondHouseTest {
    private static final Check CHECK = new Check();
    private static final int RUNS = 400;

    /** Of each call the ranges of its arguments, low and high, a little wider than what can be at any time. */
    private static final Map<String, int[]> RANGES = Map.ofEntries(
            Map.entry("end", new int[] {-1, 40}),
            Map.entry("cut", new int[] {}), Map.entry("pattern", new int[] {-1, 9, -2, 4}),
            Map.entry("fold", new int[] {}), Map.entry("book", new int[] {0, 9, -1, 2, 0, 100}),
            Map.entry("page", new int[] {-1, 8, 0, 1, -1, 8, -1, 8}), Map.entry("where", new int[] {-1, 130, -1, 5}),
            Map.entry("draw", new int[] {-1, 32}), Map.entry("point", new int[] {-1, 4, 0, 1, -1, 64, -1, 64}),
            Map.entry("mount", new int[] {-1, 4, 0, 1}), Map.entry("key", new int[] {-1, 8, -1, 256}),
            Map.entry("aim", new int[] {-1, 4001, -1, 401, -1, 100}), Map.entry("settled", new int[] {-1, 8}),
            Map.entry("print", new int[] {-1, 501}), Map.entry("good", new int[] {0, 201}),
            Map.entry("zone", new int[] {-1, 8, -1, 6}), Map.entry("number", new int[] {0, 600}),
            Map.entry("sorts", new int[] {0, 27, -1, 100, 0, 21}), Map.entry("set", new int[] {19, 201}),
            Map.entry("distribute", new int[] {-1, 16}), Map.entry("line", new int[] {-1, 16, -1, 5}),
            Map.entry("strip", new int[] {-1, 16, -1, 40}), Map.entry("left", new int[] {0, 27}),
            Map.entry("pile", new int[] {0, 1000, 0, 1000}), Map.entry("piece", new int[] {-1, 10, -1, 4}),
            Map.entry("on", new int[] {-1, 999, -1, 999}), Map.entry("gather", new int[] {}),
            Map.entry("letters", new int[] {}), Map.entry("bundles", new int[] {0, 8, 0, 31}),
            Map.entry("letter", new int[] {-1, 120, -1, 18}), Map.entry("bundle", new int[] {-1, 20, -1, 3}),
            Map.entry("strike", new int[] {-1, 120}), Map.entry("job", new int[] {-1, 4, 0, 100, 0, 100, -1, 300}),
            Map.entry("times", new int[] {-1, 51, -1, 51}), Map.entry("drop", new int[] {-1, 6}),
            Map.entry("order", new int[] {-1, 6}), Map.entry("when", new int[] {-1, 6, -1, 5}),
            Map.entry("count", new int[] {-1, 14}));

    private static final String[] PARTS = {
        "cut pattern pattern pattern pattern count", "fold book page page page where where where count",
        "fold book draw draw draw draw draw draw draw draw point point point point point point point point",
        "fold draw draw draw draw draw draw mount key key key key key key aim settled settled print print good good"
        + " zone zone zone number number number count",
        "sorts set set set distribute line line line strip strip strip left count",
        "pile piece piece piece on on on gather gather book count", "letters bundles letter letter bundle bundle strike"
        + " letter bundle count", "job job times drop order order when when when count", "end"};
    private static final Set<String> TEXTS = Set.of("cut", "fold", "draw", "set", "pile", "gather", "letters");

    private final Random random;
    private final Texts texts;
    private final PaperHouse house = new PaperHouse();
    private final SecondHouse second = new SecondHouse();
    private final List<String> done = new ArrayList<>();

    private SecondHouseTest(int seed) {
        random = new Random(seed);
        texts = new Texts(random);
    }

    public static void main(String[] args) throws Exception {
        int from = args.length > 0 ? Integer.parseInt(args[0]) : 0;
        int runs = args.length > 1 ? Integer.parseInt(args[1]) : RUNS;
        for (int seed = from; seed < from + runs; seed++) {
            new SecondHouseTest(seed).run();
        }
        CHECK.finish();
    }

    /** Some runs go through all parts, others stay in a few of them, so that these come far. */
    private void run() throws Exception {
        List<String> calls = new ArrayList<>();
        int parts = random.nextInt(3) == 0 ? PARTS.length : 1 + random.nextInt(3);
        for (int i = 0; i < parts; i++) {
            String part = PARTS[parts == PARTS.length ? i : random.nextInt(PARTS.length)];
            calls.addAll(List.of(part.split(" ")));
        }
        if (calls.contains("end")) {
            calls.addAll(TEXTS);
        }
        boolean right = true;
        while (right && done.size() < House.MOST_CALLS) {
            right = step(calls.get(random.nextInt(calls.size())));
        }
    }

    private boolean step(String name) throws Exception {
        int[] ranges = random.nextInt(5) == 0 ? RANGES.get(name) : second.thereIs(name, RANGES.get(name));
        int[] values = new int[ranges.length / 2];
        for (int i = 0; i < values.length; i++) {
            values[i] = value(ranges[2 * i], ranges[2 * i + 1]);
        }
        boolean right = true;
        if (TEXTS.contains(name) && random.nextInt(20) != 0) {
            right = putOnTape(texts.of(name, values.length > 1 ? Math.max(1, values[0]) : 1,
                    values.length > 1 ? Math.max(1, values[1]) : 1));
        }
        return right && done.size() < House.MOST_CALLS && call(name, values);
    }

    private int value(int low, int high) {
        if (random.nextInt(60) == 0) {
            return random.nextInt();
        }
        if (random.nextInt(12) == 0) {
            return random.nextBoolean() ? low : high;
        }
        int shrunk = random.nextInt(3) == 0 ? (high - low) / 4 : high - low;
        return low + random.nextInt(Math.max(0, shrunk) + 1);
    }

    private boolean putOnTape(String text) throws Exception {
        byte[] bytes = text.getBytes(StandardCharsets.ISO_8859_1);
        int[] ints = Check.ints(bytes);
        if (done.size() + ints.length / 5 + 2 > House.MOST_CALLS) {
            return false;
        }
        boolean right = random.nextInt(8) == 0 || call("end", 0);
        for (int i = 0; i < ints.length && right; i += 5) {
            right = call("feed", ints[i], ints[i + 1], ints[i + 2], ints[i + 3], ints[i + 4]);
        }
        return right && call("end", bytes.length);
    }

    private boolean call(String name, int... values) throws Exception {
        Class<?>[] types = new Class<?>[values.length];
        Object[] boxed = new Object[values.length];
        StringBuilder shown = new StringBuilder(name).append('(');
        for (int i = 0; i < values.length; i++) {
            types[i] = int.class;
            boxed[i] = values[i];
            shown.append(i == 0 ? "" : ", ").append(values[i]);
        }
        done.add(shown.append(')').toString());
        int got = (Integer) PaperHouse.class.getMethod(name, types).invoke(house, boxed);
        Method model = SecondHouse.class.getDeclaredMethod(name, types);
        int want = (Integer) model.invoke(second, boxed);
        if (got != want) {
            System.out.println("a run of these calls:");
            done.forEach(line -> System.out.println("    " + line));
        }
        CHECK.due(shown.toString(), got, want);
        return got == want;
    }
}
