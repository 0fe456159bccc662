import java.util.Random;

/** Promises 10 and 11, and the COVERAGE that promises 12 and 18 tell. */
public final class PlatesTest {
    private static final Check CHECK = new Check();
    private static final int[][] THRESHOLDS = {{0, 8, 2, 10}, {12, 4, 14, 6}, {3, 11, 1, 9}, {15, 7, 13, 5}};

    public static void main(String[] args) {
        wrongTexts();
        shapes();
        pageLimits();
        thresholds();
        foldKeepsDrawings();
        anyPlates();
        CHECK.finish();
    }

    private static void wrong(String text, int place) {
        House x = new House();
        Check.draw(x, 1, "box 0 0 8 8 16\n");
        CHECK.due("draw of " + text.replace("\n", "/"), Check.draw(x, 1, text), -1000 - place);
        CHECK.due("the page stays", x.point(0, 0, 3, 3), 1);
    }

    private static void wrongTexts() {
        wrong("", 0);
        wrong("bo", 0);
        wrong("box", 3);
        wrong("boxx 0 0 1 1 1\n", 0);
        wrong("dot 0 0 1 1 1\n", 0);
        wrong("box 8 0 1 1 1\n", 4);
        wrong("box 0 8 1 1 1\n", 6);
        wrong("box 0 0 0 1 1\n", 8);
        wrong("box 0 0 9 1 1\n", 8);
        wrong("box 0 0 1 0 1\n", 10);
        wrong("box 0 0 1 9 1\n", 10);
        wrong("box 0 0 1 1 17\n", 12);
        wrong("box 0 0 1 1 1", 13);
        wrong("box 0 0 1 1\n", 11);
        wrong("box 00 0 1 1 1\n", 5);
        wrong("line 8 0 0 0 1\n", 5);
        wrong("line 0 8 0 0 1\n", 7);
        wrong("line 0 0 8 0 1\n", 9);
        wrong("line 0 0 0 8 1\n", 11);
        wrong("line 0 0 1 1 1\n", 11);
        wrong("line 3 4 5 6", 11);
        wrong("line 0 0 0 1 17\n", 13);
        wrong("line 0 0 0 1 16", 15);
        wrong("box 0 0 1 1 1\n\n", 14);
        wrong("box 0 0 1 1 1\nline 0 0 0 0 0\nx", 29);
        wrong("box 0 0 1 1 0\n".repeat(40) + "box 0 0 1 1 0\n", 560);
        wrong("box 0 0 1 1 0\n".repeat(40) + "!", 560);
    }

    private static void shapes() {
        House x = new House();
        CHECK.due("whole", Check.draw(x, 0, "box 0 0 8 8 16\n"), 1024);
        CHECK.due("one dot alone: it is all 0 ahead", Check.draw(x, 0, "box 0 0 1 1 16\n"), 16);
        CHECK.due("cut off at the right", Check.draw(x, 0, "box 6 7 8 8 3\n"), 6);
        CHECK.due("cut off at the bottom", Check.draw(x, 0, "box 7 5 8 8 3\n"), 9);
        CHECK.due("level", Check.draw(x, 0, "line 1 2 6 2 5\n"), 30);
        CHECK.due("level, backwards", Check.draw(x, 0, "line 6 2 1 2 5\n"), 30);
        CHECK.due("upright", Check.draw(x, 0, "line 2 1 2 7 5\n"), 35);
        CHECK.due("upright, backwards", Check.draw(x, 0, "line 2 7 2 1 5\n"), 35);
        CHECK.due("a dot", Check.draw(x, 0, "line 7 7 7 7 5\n"), 5);
        CHECK.due("later over earlier", Check.draw(x, 0, "box 0 0 8 8 16\nbox 0 0 4 4 0\nline 0 0 7 0 1\n"),
                16 * (64 - 16 - 4) + 8);
        CHECK.due("forty lines", Check.draw(x, 0, "box 0 0 1 1 1\n".repeat(39) + "box 1 1 1 1 9\n"), 10);
    }

    private static void pageLimits() {
        House x = new House();
        CHECK.due("draw(31)", Check.draw(x, 31, "box 0 0 1 1 1\n"), 1);
        CHECK.due("draw(32)", Check.draw(x, 32, "box 0 0 1 1 1\n"), PaperHouse.NONE);
        CHECK.due("draw(-1)", x.draw(-1), PaperHouse.NONE);
        CHECK.due("draw(0) of what was left", x.draw(0), 1);
        CHECK.due("point(0, 0, 16, 0)", x.point(0, 0, 16, 0), PaperHouse.NONE);
        CHECK.due("point(0, 0, 0, 8)", x.point(0, 0, 0, 8), PaperHouse.NONE);
        CHECK.due("point(0, 0, -1, 0)", x.point(0, 0, -1, 0), PaperHouse.NONE);
        CHECK.due("point(0, 0, 0, -1)", x.point(0, 0, 0, -1), PaperHouse.NONE);
        CHECK.due("point(1, 0, 0, 0)", x.point(1, 0, 0, 0), PaperHouse.NONE);
        CHECK.due("point(-1, 0, 0, 0)", x.point(-1, 0, 0, 0), PaperHouse.NONE);
        CHECK.due("point(0, 2, 0, 0)", x.point(0, 2, 0, 0), PaperHouse.NONE);
        CHECK.due("point(0, -1, 0, 0)", x.point(0, -1, 0, 0), PaperHouse.NONE);
        CHECK.due("point(0, 1, 15, 7)", x.point(0, 1, 15, 7), 0);
    }

    private static void thresholds() {
        for (int tone = 0; tone <= 16; tone++) {
            House x = new House();
            Check.draw(x, 2, "box 0 0 8 8 " + tone + "\n");
            for (int i = 0; i < 64; i++) {
                CHECK.due("tone " + tone + " at " + i, x.point(0, 0, 8 + i % 8, i / 8),
                        tone > THRESHOLDS[i / 8 % 4][i % 4] ? 1 : 0);
            }
            CHECK.due("zones", x.mount(0, 0), 2);
            CHECK.due("coverage of tone " + tone, x.zone(1, 0), 4 * tone);
        }
    }

    private static void foldKeepsDrawings() {
        House x = new House();
        Check.draw(x, 3, "box 0 0 8 8 16\n");
        Check.fold(x, "sheet 1 1\nfold \n");
        CHECK.due("page 3 is not in it", x.point(0, 1, 0, 0), 0);
        x.book(2, 0, 1);
        CHECK.due("page 3 is in it", x.point(1, 1, 0, 0), 1);
    }

    private static void anyPlates() {
        Random random = new Random(11);
        for (int run = 0; run < 60; run++) {
            House x = new House();
            int rowFolds = random.nextInt(4);
            int columnFolds = random.nextInt(4);
            String folds = (random.nextBoolean() ? "tbt" : "bbt").substring(0, rowFolds)
                    + (random.nextBoolean() ? "lrl" : "rll").substring(0, columnFolds);
            Check.fold(x, "sheet " + (1 << rowFolds) + " " + (1 << columnFolds) + "\nfold " + folds + "\n");
            int sheets = 1 + random.nextInt(3);
            x.book(sheets, random.nextInt(2), 1);
            compare(x, drawAll(x, random), 1 << rowFolds, 1 << columnFolds, random.nextInt(sheets));
        }
    }

    private static int[][] drawAll(House x, Random random) {
        int[][] tones = new int[2048][64];
        for (int page = 0; page < 32; page++) {
            StringBuilder text = new StringBuilder();
            for (int i = 0; i < 6; i++) {
                int left = random.nextInt(8);
                int top = random.nextInt(8);
                int wide = 1 + random.nextInt(8);
                int high = 1 + random.nextInt(8);
                int tone = random.nextInt(17);
                text.append("box " + left + " " + top + " " + wide + " " + high + " " + tone + "\n");
                for (int dot = 0; dot < 64; dot++) {
                    int dx = dot % 8 - left;
                    int dy = dot / 8 - top;
                    if (dx >= 0 && dx < wide && dy >= 0 && dy < high) {
                        tones[page][dot] = tone;
                    }
                }
            }
            int sum = 0;
            for (int tone : tones[page]) {
                sum += tone;
            }
            CHECK.due("sum of tones", Check.draw(x, page, text.toString()), sum);
        }
        return tones;
    }

    /** Makes the plates PANEL by PANEL from what page() tells, and compares each POINT and each ZONE. */
    private static void compare(House x, int[][] tones, int rows, int columns, int s) {
        for (int side = 0; side < 2; side++) {
            int[] coverage = new int[columns];
            for (int row = 0; row < rows; row++) {
                for (int column = 0; column < columns; column++) {
                    int told = x.page(s, side, row, column);
                    int at = side == 0 ? column : columns - 1 - column;
                    for (int i = 0; i < 64; i++) {
                        int tone = tones[told % 1000][told >= 1000 ? 63 - i : i];
                        int due = tone > THRESHOLDS[i / 8 % 4][i % 4] ? 1 : 0;
                        coverage[at] += due;
                        CHECK.due("point", x.point(s, side, at * 8 + i % 8, row * 8 + i / 8), due);
                    }
                }
            }
            CHECK.due("zones", x.mount(s, side), columns);
            for (int zone = 0; zone < columns; zone++) {
                CHECK.due("coverage", x.zone(zone, 0), coverage[zone]);
            }
            CHECK.due("no zone", x.zone(columns, 0), PaperHouse.NONE);
        }
    }
}
