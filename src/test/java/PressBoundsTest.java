/** The boundary cases of Part V and of promises 12 to 19, sentence by sentence. */
public final class PressBoundsTest {
    private static final Check CHECK = new Check();
    private static final int MIN = Integer.MIN_VALUE;
    private static final int MAX = Integer.MAX_VALUE;

    public static void main(String[] args) {
        mountBounds();
        mountedAnew();
        keyBounds();
        keysOfZonesThatAreNotMounted();
        aimBounds();
        refusedAimsChangeNothing();
        aimAtFirst();
        withinTolerance();
        withinToleranceInEveryZone();
        zonesWithoutCoverage();
        coverageWithoutShare();
        shareAndTransferAreRoundedDown();
        movedByFloor();
        spoiledSheets();
        spoiledSinceMounted();
        asTheyAreWhenASheetIsPrinted();
        printBounds();
        printUpTo4000();
        goodBounds();
        goodUpTo500();
        goodUpTo4000();
        settledBounds();
        settledIsTheLeast();
        settledChangesNothing();
        settledLimits();
        zoneBounds();
        numberBounds();
        numberedAnew();
        aCopyIsMounted();
        counts();
        CHECK.finish();
    }

    /** Nothing printed yet; the left ZONE of the FRONT has so many POINTS, the right one none. */
    private static House covered(int points) {
        House x = new House();
        int rows = points / 8;
        StringBuilder text = new StringBuilder("box 0 0 1 1 0\n");
        if (rows > 0) {
            text.append("box 0 0 8 ").append(rows).append(" 16\n");
        }
        if (points % 8 > 0) {
            text.append("box 0 ").append(rows).append(' ').append(points % 8).append(" 1 16\n");
        }
        CHECK.due("draw", Check.draw(x, 1, text.toString()), 16 * points);
        CHECK.due("mount", x.mount(0, 0), 2);
        CHECK.due("coverage", x.zone(0, 0), points);
        return x;
    }

    /** "How many ZONES it has. NONE if there is none such." */
    private static void mountBounds() {
        for (int across = 0; across < 4; across++) {
            House x = new House();
            Check.fold(x, "sheet 1 " + (1 << across) + "\nfold " + "lll".substring(0, across) + "\n");
            int sheets = 2 * across + 1;
            x.book(sheets, 0, 1);
            for (int s : new int[] {-1, sheets, sheets + 1, MIN, MAX}) {
                CHECK.none("mount(" + s + ", 0)", x.mount(s, 0));
                CHECK.none("mount(" + s + ", 1)", x.mount(s, 1));
            }
            for (int side : new int[] {-1, 2, MIN, MAX}) {
                CHECK.none("mount(0, " + side + ")", x.mount(0, side));
            }
            CHECK.due("nothing is mounted", x.print(0), PaperHouse.STATE);
            CHECK.due("the first", x.mount(0, 0), 1 << across);
            CHECK.due("the last", x.mount(sheets - 1, 1), 1 << across);
            CHECK.due("the last zone", x.zone((1 << across) - 1, 0), 0);
            CHECK.none("none behind it", x.zone(1 << across, 0));
        }
    }

    /** "Films 0, no sheets; KEYS stay." A mount that is refused leaves all. */
    private static void mountedAnew() {
        House x = covered(64);
        x.key(0, 200);
        x.aim(0, 400, 0);
        x.print(3);
        int[] before = new int[6];
        for (int what = 0; what < 6; what++) {
            before[what] = x.zone(0, what);
            CHECK.due("has something " + what, before[what] > 0);
        }
        CHECK.none("mount(0, 2)", x.mount(0, 2));
        CHECK.none("mount(1, 0)", x.mount(1, 0));
        for (int what = 0; what < 6; what++) {
            CHECK.due("stays " + what, x.zone(0, what), before[what]);
        }
        CHECK.due("sheets stay", x.count(7), 3);
        CHECK.due("mount", x.mount(0, 0), 2);
        for (int what = 1; what <= 4; what++) {
            CHECK.due("0 anew " + what, x.zone(0, what), 0);
        }
        CHECK.due("the KEY stays", x.zone(0, 5), 200);
        CHECK.due("no sheets", x.count(7), 0);
        CHECK.due("no GOOD ones", x.count(8), 0);
        CHECK.none("no numbers", x.number(1));
    }

    /** "NONE if it is none of 0 .. 7, or v none of 0 .. 255." "0 at first." */
    private static void keyBounds() {
        House x = new House();
        for (int zone = 0; zone < 8; zone++) {
            CHECK.due("0 at first: key(" + zone + ", 255)", x.key(zone, 255), 0);
            CHECK.due("key(" + zone + ", 0)", x.key(zone, 0), 255);
            for (int v : new int[] {-1, 256, MIN, MAX}) {
                CHECK.none("key(" + zone + ", " + v + ")", x.key(zone, v));
            }
            CHECK.due("it stays: key(" + zone + ", " + zone + ")", x.key(zone, zone), 0);
        }
        for (int zone : new int[] {-1, 8, 9, MIN, MAX}) {
            CHECK.none("key(" + zone + ", 0)", x.key(zone, 0));
            CHECK.none("key(" + zone + ", 255)", x.key(zone, 255));
        }
        for (int zone = 0; zone < 8; zone++) {
            CHECK.due("each has its own", x.key(zone, 1), zone);
        }
    }

    private static void keysOfZonesThatAreNotMounted() {
        House x = covered(64);
        CHECK.due("key(7, 77)", x.key(7, 77), 0);
        CHECK.none("zone(7, 5)", x.zone(7, 5));
        Check.fold(x, "sheet 1 8\nfold lll\n");
        CHECK.due("mount", x.mount(0, 0), 8);
        CHECK.due("zone(7, 5)", x.zone(7, 5), 77);
        CHECK.due("zone(6, 5)", x.zone(6, 5), 0);
    }

    /** "AIM 0 .. 4000, TOLERANCE 0 .. 400", "k 0 .. 99". */
    private static void aimBounds() {
        House x = new House();
        for (int density : new int[] {0, 1, 3999, 4000}) {
            CHECK.due("aim(" + density + ", 0, 0)", x.aim(density, 0, 0), 1);
        }
        for (int tolerance : new int[] {0, 1, 399, 400}) {
            CHECK.due("aim(0, " + tolerance + ", 0)", x.aim(0, tolerance, 0), 1);
        }
        for (int spoiled : new int[] {0, 1, 98, 99}) {
            CHECK.due("aim(0, 0, " + spoiled + ")", x.aim(0, 0, spoiled), 1);
        }
        for (int density : new int[] {-1, 4001, MIN, MAX}) {
            CHECK.none("aim(" + density + ", 0, 0)", x.aim(density, 0, 0));
        }
        for (int tolerance : new int[] {-1, 401, MIN, MAX}) {
            CHECK.none("aim(0, " + tolerance + ", 0)", x.aim(0, tolerance, 0));
        }
        for (int spoiled : new int[] {-1, 100, MIN, MAX}) {
            CHECK.none("aim(0, 0, " + spoiled + ")", x.aim(0, 0, spoiled));
        }
    }

    /** Nothing of a refused call is taken: with AIM 0, TOLERANCE 0, SPOILED 3 two of three sheets are GOOD. */
    private static void refusedAimsChangeNothing() {
        int[][] refused = {{-1, 5, 1}, {4001, 5, 1}, {10, -1, 1}, {10, 401, 1}, {10, 5, -1}, {10, 5, 100}};
        for (int[] aim : refused) {
            House x = covered(1);
            CHECK.due("aim(0, 0, 3)", x.aim(0, 0, 3), 1);
            CHECK.none("refused", x.aim(aim[0], aim[1], aim[2]));
            CHECK.due("AIM 0 and each third SPOILED", x.print(9), 6);
            CHECK.due("settled by AIM 0", x.settled(0), 0);
            x.key(0, 255);
            CHECK.due("TOLERANCE 0: till the DENSITY is 1", x.good(200), 500);
        }
    }

    /** "500 and 50 at first", "0: none; 0 at first". */
    private static void aimAtFirst() {
        boolean[] met = new boolean[5000];
        for (int v = 20; v < 60; v++) {
            House x = covered(48);
            x.key(0, v);
            for (int i = 0; i < 100; i++) {
                int good = x.print(1);
                int density = x.zone(0, 3);
                CHECK.due("GOOD at " + density, good, density >= 450 && density <= 550 ? 1 : 0);
                met[density] = true;
            }
        }
        CHECK.due("all edges were met", met[449] && met[450] && met[550] && met[551]);
        House y = new House();
        y.mount(0, 0);
        CHECK.due("none is SPOILED at first", y.print(500), 500);
    }

    /** "Within TOLERANCE of the AIM": just so far off is within, one more is not; above and below. */
    private static void withinTolerance() {
        House probe = covered(64);
        probe.key(0, 255);
        probe.print(5);
        int density = probe.zone(0, 3);
        CHECK.due("a density to aim at: " + density, density > 401 && density < 3599);
        for (int tolerance : new int[] {0, 1, 50, 400}) {
            for (int off = tolerance - 1; off <= tolerance + 1; off++) {
                for (int sign = -1; sign <= 1; sign += 2) {
                    House x = covered(64);
                    x.key(0, 255);
                    x.aim(density + sign * off, tolerance, 0);
                    x.print(4);
                    CHECK.due("off by " + sign * off + ", tolerance " + tolerance, x.print(1),
                            Math.abs(off) <= tolerance ? 1 : 0);
                }
            }
        }
    }

    /** "Every ZONE whose COVERAGE is not 0": one that is off is enough, the last one, too. */
    private static void withinToleranceInEveryZone() {
        int density = fortieth(64, 100);
        int tolerance = fortieth(64, 101) - density - 1;
        CHECK.due("another KEY makes another DENSITY", tolerance >= 0);
        for (int off = -1; off < 8; off++) {
            House x = new House();
            Check.fold(x, "sheet 1 8\nfold lll\n");
            for (int page = 0; page < 16; page++) {
                Check.draw(x, page, "box 0 0 8 8 16\n");
            }
            x.mount(0, 0);
            for (int zone = 0; zone < 8; zone++) {
                x.key(zone, zone == off ? 101 : 100);
            }
            x.print(39);
            x.aim(density, tolerance, 0);
            CHECK.due("zone " + off + " is off", x.print(1), off < 0 ? 1 : 0);
        }
    }

    /** "Without any COVERAGE each sheet that is not SPOILED is GOOD", though its DENSITY is never the AIM. */
    private static void zonesWithoutCoverage() {
        House x = covered(0);
        x.key(0, 255);
        x.aim(4000, 0, 0);
        CHECK.due("all GOOD", x.print(10), 10);
        CHECK.due("DENSITY 0", x.zone(0, 3), 0);
        CHECK.due("none to paper", x.zone(0, 4), 0);
        CHECK.due("the ink stays", x.zone(0, 1) + x.zone(0, 2), 10 * 16 * 255);
        x.aim(4000, 0, 2);
        CHECK.due("but those SPOILED", x.print(10), 5);
        House y = covered(1);
        y.aim(4000, 0, 0);
        CHECK.due("with COVERAGE 1 none", y.print(10), 0);
    }

    /** A COVERAGE below ROWS has SHARE 0: it is looked at, though its DENSITY is always 0. */
    private static void coverageWithoutShare() {
        for (int points = 0; points <= 2; points++) {
            House x = new House();
            Check.fold(x, "sheet 2 1\nfold b\n");
            Check.draw(x, 2, "box 0 0 2 1 0\n" + (points == 0 ? "" : "box 0 0 " + points + " 1 16\n"));
            x.mount(0, 0);
            CHECK.due("coverage", x.zone(0, 0), points);
            x.key(0, 255);
            x.aim(4000, 400, 0);
            CHECK.due("GOOD without COVERAGE alone", x.print(100), points == 0 ? 100 : 0);
            CHECK.due("to paper from SHARE 1 on", x.zone(0, 4) > 0, points == 2);
        }
    }

    /** "COVERAGE / ROWS (down)", "B * SHARE / 512 (down)". */
    private static void shareAndTransferAreRoundedDown() {
        int[] sides = {1, 2, 4, 8};
        for (int down = 0; down < 4; down++) {
            for (int points : new int[] {sides[down] - 1, sides[down], 2 * sides[down] - 1, 63, 64}) {
                House x = new House();
                Check.fold(x, "sheet " + sides[down] + " 1\nfold " + "ttt".substring(0, down) + "\n");
                int front = x.page(0, 0, sides[down] - 1, 0);
                Check.draw(x, front, boxes(points));
                x.mount(0, 0);
                CHECK.due("coverage", x.zone(0, 0), points);
                x.key(0, 255);
                Films films = new Films(points / sides[down]);
                for (int i = 0; i < 12; i++) {
                    x.print(1);
                    films.sheet(255);
                    films.compare(x, 0);
                }
            }
        }
    }

    private static String boxes(int points) {
        String text = "box 0 0 1 1 0\n";
        if (points >= 8) {
            text += "box 0 0 8 " + points / 8 + " 16\n";
        }
        return points % 8 == 0 ? text : text + "box 0 " + points / 8 + " " + points % 8 + " 1 16\n";
    }

    /** One ZONE by the document's words, with long numbers. */
    private static final class Films {
        private final long share;
        private long a = 0;
        private long b = 0;
        private long t = 0;
        private long paper = 0;
        private long moved = 0;
        private long difference = 0;

        Films(long share) {
            this.share = share;
        }

        void sheet(int key) {
            a += 16 * key;
            difference = a - b;
            moved = Math.floorDiv(difference, 3L);
            a -= moved;
            b += moved;
            t = b * share / 512;
            b -= t;
            paper += t;
        }

        void compare(House x, int zone) {
            CHECK.due("A", x.zone(zone, 1), a);
            CHECK.due("B", x.zone(zone, 2), b);
            CHECK.due("DENSITY", x.zone(zone, 3), t);
            CHECK.due("paper", x.zone(zone, 4), paper);
        }
    }

    /** "(A - B) / 3 (down, by floor)": whatever rest it leaves, with ink coming and without. */
    private static void movedByFloor() {
        boolean[] met = new boolean[3];
        for (int points : new int[] {0, 1, 2, 3, 7, 64}) {
            for (int v = 1; v < 8; v++) {
                House x = covered(points);
                Films films = new Films(points);
                for (int i = 0; i < 12; i++) {
                    int now = i < 6 ? v : 0;
                    x.key(0, now);
                    x.print(1);
                    films.sheet(now);
                    films.compare(x, 0);
                    met[(int) Math.floorMod(films.difference, 3L)] = true;
                }
            }
        }
        CHECK.due("all rests were met", met[0] && met[1] && met[2]);
    }

    /** "Each k-th printed sheet since it was mounted is (k 0 .. 99; 0: none)." */
    private static void spoiledSheets() {
        for (int k : new int[] {0, 1, 2, 3, 98, 99}) {
            House x = new House();
            x.mount(0, 0);
            x.aim(0, 0, k);
            CHECK.due("of 300 with k " + k, x.print(300), k == 0 ? 300 : 300 - 300 / k);
            int good = 0;
            for (int sheet = 1; sheet <= 300; sheet++) {
                boolean spoiled = k > 0 && sheet % k == 0;
                good += spoiled ? 0 : 1;
                CHECK.due("number(" + sheet + ") with k " + k, x.number(sheet), spoiled ? 0 : good);
            }
        }
    }

    /** "Each k-th by all since it was mounted": not since the k was told. */
    private static void spoiledSinceMounted() {
        House x = new House();
        x.mount(0, 0);
        CHECK.due("print(4)", x.print(4), 4);
        x.aim(0, 0, 5);
        CHECK.due("the fifth is SPOILED", x.print(1), 0);
        CHECK.due("the sixth to ninth are not", x.print(4), 4);
        CHECK.due("the tenth is", x.print(1), 0);
        x.aim(0, 0, 11);
        CHECK.due("the eleventh is, by the new k", x.print(1), 0);
        x.mount(0, 0);
        CHECK.due("counted anew", x.print(10), 10);
        CHECK.due("the eleventh", x.print(1), 0);
    }

    private static void asTheyAreWhenASheetIsPrinted() {
        House x = covered(64);
        x.aim(0, 0, 0);
        CHECK.due("DENSITY 0 is GOOD", x.print(2), 2);
        x.aim(1, 0, 0);
        CHECK.due("now it is not", x.print(2), 0);
        x.aim(0, 0, 2);
        CHECK.due("the sixth is SPOILED", x.print(2), 1);
        int[] due = {1, 2, 0, 0, 3, 0};
        for (int k = 1; k <= 6; k++) {
            CHECK.due("number(" + k + ") stays", x.number(k), due[k - 1]);
        }
        CHECK.due("GOOD ones stay", x.count(8), 3);
    }

    /** "So many sheets, 0 .. 500 .. NONE for another n; STATE if nothing is mounted." */
    private static void printBounds() {
        House x = new House();
        for (int n : new int[] {0, 1, 500}) {
            CHECK.due("nothing mounted: print(" + n + ")", x.print(n), PaperHouse.STATE);
        }
        for (int n : new int[] {-1, 501, MIN, MAX}) {
            CHECK.none("nothing mounted: print(" + n + ")", x.print(n));
        }
        x.mount(0, 0);
        CHECK.due("print(0)", x.print(0), 0);
        CHECK.due("none printed", x.count(7), 0);
        CHECK.due("print(1)", x.print(1), 1);
        CHECK.due("print(500)", x.print(500), 500);
        for (int n : new int[] {-1, 501, 4000, MIN, MAX}) {
            CHECK.none("print(" + n + ")", x.print(n));
        }
        CHECK.due("501 printed", x.count(7), 501);
    }

    /** "FULL, and none is printed, if there would be more than 4,000 since it was mounted." */
    private static void printUpTo4000() {
        House x = covered(64);
        x.key(0, 30);
        for (int i = 0; i < 7; i++) {
            x.print(500);
        }
        CHECK.due("3501", x.print(1) >= 0);
        int a = x.zone(0, 1);
        CHECK.due("print(500) at 3501", x.print(500), PaperHouse.FULL);
        CHECK.due("none is printed", x.count(7), 3501);
        CHECK.due("no ink has gone", x.zone(0, 1), a);
        CHECK.none("NONE ahead of FULL", x.print(501));
        CHECK.due("print(499) at 3501", x.print(499) >= 0);
        CHECK.due("4000", x.count(7), 4000);
        for (int n : new int[] {1, 2, 500}) {
            CHECK.due("print(" + n + ") at 4000", x.print(n), PaperHouse.FULL);
        }
        CHECK.due("print(0) at 4000", x.print(0), 0);
        CHECK.due("still 4000", x.count(7), 4000);
        CHECK.due("the last one's number", x.number(4000) != PaperHouse.NONE);
        CHECK.none("number(4001)", x.number(4001));
        x.mount(0, 0);
        CHECK.due("mounted anew", x.print(500) >= 0);
        CHECK.due("500", x.count(7), 500);
    }

    /** "N (1 .. 200) .. NONE for another n; STATE." */
    private static void goodBounds() {
        House x = new House();
        for (int n : new int[] {1, 200}) {
            CHECK.due("nothing mounted: good(" + n + ")", x.good(n), PaperHouse.STATE);
        }
        for (int n : new int[] {0, -1, 201, MIN, MAX}) {
            CHECK.none("nothing mounted: good(" + n + ")", x.good(n));
        }
        x.mount(0, 0);
        for (int n : new int[] {0, -1, 201, MIN, MAX}) {
            CHECK.none("good(" + n + ")", x.good(n));
        }
        CHECK.due("none printed", x.count(7), 0);
        CHECK.due("good(1)", x.good(1), 1);
        CHECK.due("good(200)", x.good(200), 200);
        CHECK.due("201 printed", x.count(7), 201);
        CHECK.due("201 GOOD", x.count(8), 201);
        x.aim(0, 0, 2);
        CHECK.due("the 202nd is SPOILED", x.good(1), 2);
        CHECK.due("good ones of this call alone count", x.good(3), 6);
    }

    /** "Or 500 are printed": the n-th GOOD one may be the 500th, or come one too late. */
    private static void goodUpTo500() {
        House probe = covered(1);
        probe.key(0, 255);
        probe.print(400);
        int density = probe.zone(0, 3);
        CHECK.due("a density below 3600", density > 0 && density < 3600);
        int first = 1;
        House find = covered(1);
        find.key(0, 255);
        find.aim(density + 400, 400, 0);
        first = find.good(1);
        CHECK.due("the first GOOD one is near the 400th", first > 380 && first <= 400);
        for (int n = 500 - first; n <= 502 - first; n++) {
            House x = covered(1);
            x.key(0, 255);
            x.aim(density + 400, 400, 0);
            int all = first + n - 1;
            CHECK.due("good(" + n + ")", x.good(n), Math.min(500, all));
            CHECK.due("GOOD ones", x.count(8), Math.min(n, 501 - first));
            CHECK.due("printed", x.count(7), Math.min(500, all));
        }
        House none = covered(1);
        none.aim(4000, 0, 0);
        CHECK.due("never GOOD", none.good(1), 500);
        CHECK.due("never GOOD, again", none.good(1), 500);
        CHECK.due("1000 printed", none.count(7), 1000);
    }

    /** "Or 4,000 since it was mounted." */
    private static void goodUpTo4000() {
        House x = new House();
        x.mount(0, 0);
        for (int i = 0; i < 7; i++) {
            x.print(500);
        }
        x.print(400);
        CHECK.due("good(200) at 3900", x.good(200), 100);
        CHECK.due("good(1) at 4000", x.good(1), 0);
        CHECK.due("4000 printed", x.count(7), 4000);
        CHECK.due("4000 GOOD", x.count(8), 4000);
        CHECK.none("good(201) at 4000", x.good(201));
        House y = new House();
        y.mount(0, 0);
        y.aim(0, 0, 1);
        for (int i = 0; i < 8; i++) {
            CHECK.due("500 without a GOOD one", y.good(1), 500);
        }
        CHECK.due("none more", y.good(1), 0);
        House z = new House();
        z.mount(0, 0);
        for (int i = 0; i < 19; i++) {
            z.good(200);
        }
        CHECK.due("good(200) at 3800", z.good(200), 200);
        CHECK.due("good(200) at 4000", z.good(200), 0);
    }

    /** "SETTLED of a ZONE of what is mounted; NONE if there is none such." */
    private static void settledBounds() {
        House x = new House();
        for (int zone = -1; zone < 9; zone++) {
            CHECK.none("nothing mounted: settled(" + zone + ")", x.settled(zone));
        }
        for (int across = 0; across < 4; across++) {
            House y = new House();
            Check.fold(y, "sheet 1 " + (1 << across) + "\nfold " + "lll".substring(0, across) + "\n");
            y.mount(0, 0);
            CHECK.due("the first", y.settled(0), 0);
            CHECK.due("the last", y.settled((1 << across) - 1), 0);
            for (int zone : new int[] {-1, 1 << across, 8, 9, MIN, MAX}) {
                CHECK.none("settled(" + zone + ")", y.settled(zone));
            }
        }
    }

    private static int fortieth(int points, int key) {
        House x = covered(points);
        x.key(0, key);
        x.print(40);
        return x.zone(0, 3);
    }

    /** "The least KEY with which the DENSITY of the 40th sheet from films of 0 is at least the AIM." */
    private static void settledIsTheLeast() {
        for (int points : new int[] {1, 5, 8, 33, 64}) {
            for (int key : new int[] {1, 2, 100, 254, 255}) {
                int below = fortieth(points, key - 1);
                int density = fortieth(points, key);
                if (density > below && density <= 4000) {
                    House x = covered(points);
                    x.key(0, 77);
                    x.print(3);
                    x.aim(density, 0, 0);
                    CHECK.due("AIM just reached", x.settled(0), key);
                    x.aim(below + 1, 0, 0);
                    CHECK.due("AIM just above the KEY below", x.settled(0), key);
                    x.aim(below, 0, 0);
                    CHECK.due("AIM reached by a KEY below", x.settled(0) < key);
                    CHECK.due("nothing is printed", x.count(7), 3);
                    CHECK.due("the KEY stays", x.zone(0, 5), 77);
                }
            }
        }
    }

    /** SETTLED is reckoned from films of 0; those of the ZONES, their KEYS and what they tell stay. */
    private static void settledChangesNothing() {
        House x = new House();
        Check.fold(x, "sheet 1 8\nfold lll\n");
        for (int page = 0; page < 16; page++) {
            Check.draw(x, page, "box 0 0 8 8 " + (1 + page) + "\n");
        }
        x.mount(0, 0);
        for (int zone = 0; zone < 8; zone++) {
            x.key(zone, 20 + zone);
        }
        x.print(7);
        int[] before = new int[48];
        for (int i = 0; i < 48; i++) {
            before[i] = x.zone(i / 6, i % 6);
            CHECK.due("something is there", before[i] > 0);
        }
        for (int zone = 0; zone < 8; zone++) {
            int told = x.settled(zone);
            CHECK.due("the same again", x.settled(zone), told);
            for (int i = 0; i < 48; i++) {
                CHECK.due("zone(" + i / 6 + ", " + i % 6 + ") stays", x.zone(i / 6, i % 6), before[i]);
            }
        }
        CHECK.due("no sheets more", x.count(7), 7);
    }

    /** "255 if there is none; 0 without COVERAGE." */
    private static void settledLimits() {
        House x = covered(64);
        x.aim(0, 0, 0);
        CHECK.due("AIM 0", x.settled(0), 0);
        x.aim(1, 0, 0);
        CHECK.due("AIM 1", x.settled(0) > 0);
        CHECK.due("without COVERAGE", x.settled(1), 0);
        x.aim(4000, 0, 0);
        CHECK.due("without COVERAGE, AIM 4000", x.settled(1), 0);
        House y = covered(1);
        y.aim(4000, 0, 0);
        CHECK.due("none reaches it", y.settled(0), 255);
        int most = fortieth(1, 255);
        CHECK.due("255 reaches less than 4000", most < 4000);
        y.aim(most, 0, 0);
        CHECK.due("255 reaches it", y.settled(0) <= 255);
        y.aim(most + 1, 0, 0);
        CHECK.due("255 does not reach it", y.settled(0), 255);
        y.aim(0, 0, 0);
        CHECK.due("AIM 0 with COVERAGE 1", y.settled(0), 0);
    }

    /** "Of a ZONE of what is mounted .. NONE if there is none such"; "DENSITY (0 ahead of any sheet)". */
    private static void zoneBounds() {
        for (int across = 0; across < 4; across++) {
            House x = new House();
            int zones = 1 << across;
            for (int what = 0; what < 6; what++) {
                CHECK.none("nothing mounted: zone(0, " + what + ")", x.zone(0, what));
            }
            Check.fold(x, "sheet 1 " + zones + "\nfold " + "rrr".substring(0, across) + "\n");
            x.mount(0, 1);
            for (int what = 0; what < 6; what++) {
                CHECK.due("the first, " + what, x.zone(0, what), 0);
                CHECK.due("the last, " + what, x.zone(zones - 1, what), 0);
                for (int zone : new int[] {-1, zones, zones + 1, 8, MIN, MAX}) {
                    CHECK.none("zone(" + zone + ", " + what + ")", x.zone(zone, what));
                }
            }
            for (int what : new int[] {-1, 6, 7, MIN, MAX}) {
                CHECK.none("zone(0, " + what + ")", x.zone(0, what));
            }
        }
        House y = covered(64);
        y.key(0, 10);
        CHECK.due("A ahead of any sheet", y.zone(0, 1), 0);
        CHECK.due("DENSITY ahead of any sheet", y.zone(0, 3), 0);
        CHECK.due("the KEY is there", y.zone(0, 5), 10);
        y.print(1);
        CHECK.due("A behind one: 160 - 53", y.zone(0, 1), 107);
        CHECK.due("DENSITY: 53 * 64 / 512", y.zone(0, 3), 6);
        CHECK.due("B: 53 - 6", y.zone(0, 2), 47);
        CHECK.due("paper", y.zone(0, 4), 6);
    }

    /** "The k-th sheet printed since it was mounted, from 1 on; 0 if it was not GOOD; NONE if there is none such." */
    private static void numberBounds() {
        House x = new House();
        for (int k : new int[] {-1, 0, 1}) {
            CHECK.none("nothing mounted: number(" + k + ")", x.number(k));
        }
        x.mount(0, 0);
        for (int printed = 0; printed < 70; printed++) {
            CHECK.none("number(" + (printed + 1) + ") of " + printed, x.number(printed + 1));
            x.print(1);
            CHECK.due("number(" + (printed + 1) + ")", x.number(printed + 1), printed + 1);
        }
        for (int k : new int[] {0, -1, 71, 4000, 4001, MIN, MAX}) {
            CHECK.none("number(" + k + ")", x.number(k));
        }
        CHECK.due("number(1)", x.number(1), 1);
        x.aim(0, 0, 1);
        x.print(1);
        CHECK.due("not GOOD", x.number(71), 0);
        x.aim(0, 0, 0);
        x.print(1);
        CHECK.due("the next number", x.number(72), 71);
    }

    /** "GOOD ones are numbered anew for each that is mounted." */
    private static void numberedAnew() {
        House x = new House();
        x.mount(0, 0);
        x.print(100);
        x.mount(0, 1);
        CHECK.none("no sheets", x.number(1));
        x.aim(0, 0, 2);
        x.print(10);
        for (int k = 1; k <= 10; k++) {
            CHECK.due("number(" + k + ")", x.number(k), k % 2 == 0 ? 0 : (k + 1) / 2);
        }
        CHECK.none("those from before", x.number(11));
    }

    /** "ROWS, SHARE and COVERAGE are those of the PLATE as it was mounted." */
    private static void aCopyIsMounted() {
        House x = covered(64);
        Check.draw(x, 1, "box 0 0 1 1 0\n");
        Check.fold(x, "sheet 8 1\nfold ttt\n");
        x.book(3, 1, 1);
        CHECK.due("two zones stay", x.zone(1, 0), 0);
        CHECK.none("no third", x.zone(2, 0));
        CHECK.due("coverage stays", x.zone(0, 0), 64);
        Films films = new Films(64);
        x.key(0, 50);
        for (int i = 0; i < 5; i++) {
            x.print(1);
            films.sheet(50);
            films.compare(x, 0);
        }
        CHECK.due("mounted anew: one zone", x.mount(0, 0), 1);
        CHECK.due("of nothing", x.zone(0, 0), 0);
        CHECK.none("no second", x.zone(1, 0));
    }

    /** Counts 7 and 8: "sheets printed since a plate was mounted (0)", "GOOD ones". */
    private static void counts() {
        House x = new House();
        x.print(5);
        x.good(5);
        CHECK.due("nothing mounted", x.count(7), 0);
        CHECK.due("none GOOD", x.count(8), 0);
        x.mount(0, 0);
        CHECK.due("none printed", x.count(7), 0);
        x.aim(0, 0, 4);
        CHECK.due("good(4)", x.good(4), 5);
        CHECK.due("printed", x.count(7), 5);
        CHECK.due("GOOD", x.count(8), 4);
        CHECK.due("print(3)", x.print(3), 2);
        CHECK.due("printed", x.count(7), 8);
        CHECK.due("GOOD", x.count(8), 6);
    }
}
