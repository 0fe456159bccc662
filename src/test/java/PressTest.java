import java.util.ArrayList;
import java.util.List;
import java.util.Random;

/** Promises 12 to 19, and counts 7 and 8 of promise 40. */
public final class PressTest {
    private static final Check CHECK = new Check();

    public static void main(String[] args) {
        limits();
        mounting();
        copyStays();
        spoiledAndNumbers();
        manySheets();
        goodLimits();
        aimAtFirst();
        numbersAnew();
        smallShare();
        anyPrinting();
        CHECK.finish();
    }

    /** Both ZONES of the FRONT covered with a TONE. */
    private static House covered(int left, int right) {
        House x = new House();
        Check.draw(x, 1, "box 0 0 8 8 " + left + "\n");
        Check.draw(x, 2, "box 0 0 8 8 " + right + "\n");
        return x;
    }

    private static void limits() {
        House x = covered(8, 8);
        CHECK.due("key(8, 0)", x.key(8, 0), PaperHouse.NONE);
        CHECK.due("key(-1, 0)", x.key(-1, 0), PaperHouse.NONE);
        CHECK.due("key(0, 256)", x.key(0, 256), PaperHouse.NONE);
        CHECK.due("key(0, -1)", x.key(0, -1), PaperHouse.NONE);
        CHECK.due("key(7, 255)", x.key(7, 255), 0);
        CHECK.due("key(7, 3)", x.key(7, 3), 255);
        CHECK.due("key(7, 3) again", x.key(7, 3), 3);
        CHECK.due("aim(0, 0, 0)", x.aim(0, 0, 0), 1);
        CHECK.due("aim(4000, 400, 99)", x.aim(4000, 400, 99), 1);
        CHECK.due("aim(-1, 0, 0)", x.aim(-1, 0, 0), PaperHouse.NONE);
        CHECK.due("aim(4001, 0, 0)", x.aim(4001, 0, 0), PaperHouse.NONE);
        CHECK.due("aim(0, -1, 0)", x.aim(0, -1, 0), PaperHouse.NONE);
        CHECK.due("aim(0, 401, 0)", x.aim(0, 401, 0), PaperHouse.NONE);
        CHECK.due("aim(0, 0, -1)", x.aim(0, 0, -1), PaperHouse.NONE);
        CHECK.due("aim(0, 0, 100)", x.aim(0, 0, 100), PaperHouse.NONE);
        CHECK.due("print(501) ahead of STATE", x.print(501), PaperHouse.NONE);
        CHECK.due("print(-1) ahead of STATE", x.print(-1), PaperHouse.NONE);
        CHECK.due("print(0), nothing mounted", x.print(0), PaperHouse.STATE);
        CHECK.due("good(0) ahead of STATE", x.good(0), PaperHouse.NONE);
        CHECK.due("good(201) ahead of STATE", x.good(201), PaperHouse.NONE);
        CHECK.due("good(200), nothing mounted", x.good(200), PaperHouse.STATE);
        CHECK.due("mount(1, 0)", x.mount(1, 0), PaperHouse.NONE);
        CHECK.due("mount(-1, 0)", x.mount(-1, 0), PaperHouse.NONE);
        CHECK.due("mount(0, 2)", x.mount(0, 2), PaperHouse.NONE);
        CHECK.due("mount(0, -1)", x.mount(0, -1), PaperHouse.NONE);
        CHECK.due("nothing is mounted", x.zone(0, 0), PaperHouse.NONE);
        CHECK.due("mount(0, 0)", x.mount(0, 0), 2);
        CHECK.due("settled(2)", x.settled(2), PaperHouse.NONE);
        CHECK.due("settled(-1)", x.settled(-1), PaperHouse.NONE);
        CHECK.due("zone(2, 0)", x.zone(2, 0), PaperHouse.NONE);
        CHECK.due("zone(-1, 0)", x.zone(-1, 0), PaperHouse.NONE);
        CHECK.due("zone(0, -1)", x.zone(0, -1), PaperHouse.NONE);
        CHECK.due("zone(0, 6)", x.zone(0, 6), PaperHouse.NONE);
        CHECK.due("number(0)", x.number(0), PaperHouse.NONE);
        CHECK.due("number(1)", x.number(1), PaperHouse.NONE);
    }

    private static void mounting() {
        House x = covered(8, 16);
        x.key(0, 100);
        x.key(1, 50);
        x.aim(100, 400, 0);
        x.mount(0, 0);
        CHECK.due("density ahead of any sheet", x.zone(0, 3), 0);
        CHECK.due("print(3)", x.print(3), 3);
        CHECK.due("films have ink", x.zone(0, 1) > 0 && x.zone(0, 2) > 0 && x.zone(0, 4) > 0);
        CHECK.due("mount none such", x.mount(0, 5), PaperHouse.NONE);
        CHECK.due("leaves it", x.count(7), 3);
        CHECK.due("mount", x.mount(0, 0), 2);
        for (int what = 1; what <= 4; what++) {
            CHECK.due("mounted anew " + what, x.zone(0, what), 0);
        }
        CHECK.due("keys stay", x.zone(0, 5), 100);
        CHECK.due("keys stay", x.zone(1, 5), 50);
        CHECK.due("no sheets", x.count(7), 0);
        CHECK.due("no good ones", x.count(8), 0);
        CHECK.due("no numbers", x.number(1), PaperHouse.NONE);
        CHECK.due("print", x.print(1), 1);
        CHECK.due("numbered anew", x.number(1), 1);
    }

    private static void copyStays() {
        House x = covered(16, 8);
        x.mount(0, 0);
        Check.draw(x, 1, "box 0 0 1 1 0\n");
        Check.fold(x, "sheet 1 1\nfold \n");
        CHECK.due("coverage stays", x.zone(0, 0), 64);
        CHECK.due("zones stay", x.zone(1, 0), 32);
        x.key(0, 10);
        x.print(1);
        CHECK.due("share stays", x.zone(0, 3), 53 * 64 / 512);
    }

    private static void spoiledAndNumbers() {
        House x = new House();
        x.mount(0, 0);
        x.aim(4000, 0, 3);
        CHECK.due("without coverage all but each third", x.print(10), 7);
        int[] due = {1, 2, 0, 3, 4, 0, 5, 6, 0, 7};
        for (int k = 1; k <= 10; k++) {
            CHECK.due("number " + k, x.number(k), due[k - 1]);
        }
        CHECK.due("number 11", x.number(11), PaperHouse.NONE);
        x.aim(4000, 0, 4);
        CHECK.due("each fourth of all", x.print(2), 1);
        CHECK.due("number 11", x.number(11), 8);
        CHECK.due("number 12", x.number(12), 0);
        x.aim(4000, 0, 1);
        CHECK.due("all spoiled", x.print(5), 0);
        CHECK.due("good(1), all spoiled", x.good(1), 500);
        x.aim(4000, 0, 0);
        CHECK.due("print(0)", x.print(0), 0);
        CHECK.due("none spoiled", x.print(5), 5);
        CHECK.due("count(7)", x.count(7), 522);
        CHECK.due("count(8)", x.count(8), 13);
        CHECK.due("the last one's number", x.number(522), 13);
    }

    private static void manySheets() {
        House x = covered(16, 0);
        x.mount(0, 0);
        x.key(0, 255);
        x.key(1, 255);
        x.aim(0, 0, 0);
        for (int i = 0; i < 7; i++) {
            CHECK.due("print(500)", x.print(500), 0);
        }
        CHECK.due("print(499)", x.print(499), 0);
        CHECK.due("print(2)", x.print(2), PaperHouse.FULL);
        CHECK.due("none is printed", x.count(7), 3999);
        CHECK.due("good(1)", x.good(1), 1);
        CHECK.due("good(1) at 4000", x.good(1), 0);
        CHECK.due("print(1) at 4000", x.print(1), PaperHouse.FULL);
        CHECK.due("print(0) at 4000", x.print(0), 0);
        CHECK.due("number(4000)", x.number(4000), 0);
        CHECK.due("number(4001)", x.number(4001), PaperHouse.NONE);
        CHECK.due("ink is neither lost nor made",
                x.zone(0, 1) + x.zone(0, 2) + x.zone(0, 4), 4000 * 16 * 255);
        CHECK.due("ink without coverage stays", x.zone(1, 1) + x.zone(1, 2), 4000 * 16 * 255);
        CHECK.due("none to paper", x.zone(1, 4), 0);
    }

    private static void goodLimits() {
        House x = new House();
        x.mount(0, 1);
        CHECK.due("good(200)", x.good(200), 200);
        x.aim(0, 0, 2);
        CHECK.due("good(200), each second", x.good(200), 399);
        CHECK.due("count(8)", x.count(8), 400);
        CHECK.due("number(599)", x.number(599), 400);
        CHECK.due("good(1): the 600th is spoiled", x.good(1), 2);
    }

    /** AIM 500 and TOLERANCE 50, up to their edges. */
    private static void aimAtFirst() {
        boolean[] seen = new boolean[5000];
        for (int v = 0; v < 256; v++) {
            House x = covered(12, 0);
            x.key(0, v);
            x.mount(0, 0);
            for (int i = 0; i < 60; i++) {
                int good = x.print(1);
                int density = x.zone(0, 3);
                seen[density] = true;
                CHECK.due("good at density " + density, good, density >= 450 && density <= 550 ? 1 : 0);
            }
        }
        CHECK.due("all edges were met", seen[449] && seen[450] && seen[550] && seen[551]);
    }

    private static void numbersAnew() {
        House x = new House();
        x.mount(0, 0);
        x.print(40);
        x.mount(0, 0);
        x.aim(0, 0, 1);
        x.print(40);
        for (int k = 1; k <= 40; k++) {
            CHECK.due("number " + k + " anew", x.number(k), 0);
        }
        x.mount(0, 0);
        x.aim(0, 0, 0);
        for (int i = 0; i < 8; i++) {
            CHECK.due("print(500)", x.print(500), 500);
        }
        for (int k = 1; k <= 4000; k += 31) {
            CHECK.due("number " + k, x.number(k), k);
        }
        CHECK.due("number 4000", x.number(4000), 4000);
    }

    /** A COVERAGE below ROWS has no SHARE: no DENSITY, but the ZONE counts. */
    private static void smallShare() {
        House x = new House();
        Check.fold(x, "sheet 2 1\nfold t\n");
        Check.draw(x, 2, "box 0 0 1 1 16\n");
        CHECK.due("mount", x.mount(0, 0), 1);
        CHECK.due("coverage", x.zone(0, 0), 1);
        CHECK.due("settled", x.settled(0), 255);
        x.aim(0, 0, 0);
        CHECK.due("settled of aim 0", x.settled(0), 0);
        x.key(0, 200);
        CHECK.due("density 0 is aimed at", x.print(2), 2);
        x.aim(1, 0, 0);
        CHECK.due("density 0 is not enough", x.print(2), 0);
        x.aim(1, 1, 0);
        CHECK.due("density 0 is within", x.print(2), 2);
        CHECK.due("none to paper", x.zone(0, 4), 0);
    }

    private static void anyPrinting() {
        Random random = new Random(5);
        for (int run = 0; run < 60; run++) {
            House x = new House();
            int rowFolds = random.nextInt(3);
            int columnFolds = random.nextInt(4);
            Check.fold(x, "sheet " + (1 << rowFolds) + " " + (1 << columnFolds) + "\nfold "
                    + "tb".substring(0, rowFolds) + "lrl".substring(0, columnFolds) + "\n");
            for (int page = 0; page < 32; page++) {
                Check.draw(x, page, "box 0 0 8 " + (1 + random.nextInt(8)) + " " + random.nextInt(17) + "\n");
            }
            x.mount(0, random.nextInt(2));
            new Model(x, 1 << rowFolds, 1 << columnFolds).work(random);
        }
    }

    /** The press again, one ZONE after the other, by longs. */
    private static final class Model {
        private final House x;
        private final int zones;
        private final long[] share;
        private final long[] coverage;
        private final long[] key = new long[8];
        private final long[] a = new long[8];
        private final long[] b = new long[8];
        private final long[] density = new long[8];
        private final long[] paper = new long[8];
        private final List<Integer> numbers = new ArrayList<>();
        private int aim = 500;
        private int tolerance = 50;
        private int spoiled = 0;
        private int good = 0;

        Model(House x, int rows, int columns) {
            this.x = x;
            zones = columns;
            share = new long[columns];
            coverage = new long[columns];
            for (int z = 0; z < columns; z++) {
                coverage[z] = x.zone(z, 0);
                share[z] = coverage[z] / rows;
            }
        }

        void work(Random random) {
            for (int step = 0; step < 40; step++) {
                int zone = random.nextInt(zones);
                switch (random.nextInt(6)) {
                    case 0:
                        aim = random.nextInt(1500);
                        tolerance = random.nextInt(401);
                        spoiled = random.nextInt(12);
                        CHECK.due("aim", x.aim(aim, tolerance, spoiled), 1);
                        break;
                    case 1:
                        long v = random.nextBoolean() ? x.settled(zone) : random.nextInt(256);
                        CHECK.due("key", x.key(zone, (int) v), key[zone]);
                        key[zone] = v;
                        break;
                    case 2:
                        CHECK.due("settled", x.settled(zone), settled(zone));
                        break;
                    case 3:
                        int before = good;
                        int n = random.nextInt(60);
                        int told = x.print(n);
                        boolean full = numbers.size() + n > 4000;
                        for (int i = 0; i < n && !full; i++) {
                            sheet();
                        }
                        CHECK.due("print", told, full ? PaperHouse.FULL : good - before);
                        break;
                    case 4:
                        int wanted = 1 + random.nextInt(5);
                        int target = good + wanted;
                        int sheets = 0;
                        while (good < target && sheets < 500 && numbers.size() < 4000) {
                            sheet();
                            sheets++;
                        }
                        CHECK.due("good", x.good(wanted), sheets);
                        break;
                    default:
                        tell(zone, random);
                        break;
                }
            }
        }

        private void tell(int zone, Random random) {
            long[] due = {coverage[zone], a[zone], b[zone], density[zone], paper[zone], key[zone]};
            for (int what = 0; what < due.length; what++) {
                CHECK.due("zone " + what, x.zone(zone, what), due[what]);
            }
            CHECK.due("count(7)", x.count(7), numbers.size());
            CHECK.due("count(8)", x.count(8), good);
            for (int i = 0; i < 20 && !numbers.isEmpty(); i++) {
                int k = random.nextInt(numbers.size());
                CHECK.due("number", x.number(k + 1), numbers.get(k));
            }
        }

        private void sheet() {
            boolean within = true;
            for (int z = 0; z < zones; z++) {
                a[z] += 16 * key[z];
                long m = Math.floorDiv(a[z] - b[z], 3L);
                a[z] -= m;
                b[z] += m;
                density[z] = b[z] * share[z] / 512;
                b[z] -= density[z];
                paper[z] += density[z];
                within &= coverage[z] == 0
                        || density[z] >= aim - tolerance && density[z] <= aim + tolerance;
            }
            boolean isSpoiled = spoiled != 0 && (numbers.size() + 1) % spoiled == 0;
            numbers.add(within && !isSpoiled ? ++good : 0);
        }

        private int settled(int zone) {
            if (coverage[zone] == 0) {
                return 0;
            }
            for (int v = 0; v < 255; v++) {
                long filmA = 0;
                long filmB = 0;
                long t = 0;
                for (int i = 0; i < 40; i++) {
                    filmA += 16 * v;
                    long m = Math.floorDiv(filmA - filmB, 3L);
                    filmA -= m;
                    filmB += m;
                    t = filmB * share[zone] / 512;
                    filmB -= t;
                }
                if (t >= aim) {
                    return v;
                }
            }
            return 255;
        }
    }
}
