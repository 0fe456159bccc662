/** The boundary cases of Part IV and of promises 10 and 11, sentence by sentence. */
public final class PlatesBoundsTest {
    private static final Check CHECK = new Check();
    private static final int[][] THRESHOLDS = {{0, 8, 2, 10}, {12, 4, 14, 6}, {3, 11, 1, 9}, {15, 7, 13, 5}};
    private static final int MIN = Integer.MIN_VALUE;
    private static final int MAX = Integer.MAX_VALUE;
    private static final String WHOLE = "box 0 0 8 8 16\n";

    public static void main(String[] args) {
        words();
        boxNumbers();
        lineNumbers();
        neitherLevelNorUpright();
        oneToFortyLines();
        blanksAndLineEnds();
        pageBounds();
        pagesBeyondThoseOfTheBook();
        otherPagesAreZero();
        asFarAsTheyLieInIt();
        linesBothWays();
        laterOverEarlier();
        allZeroAhead();
        wrongTextsChangeNothing();
        toneAboveThreshold();
        thresholdsRunOnAcrossPanels();
        pointBounds();
        backIsTurnedAboutItsUprightMiddle();
        turnedByHalf();
        asThePagesAreNow();
        CHECK.finish();
    }

    private static int draw(House x, String text) {
        return Check.draw(x, 0, text);
    }

    private static void words() {
        CHECK.wrong(PlatesBoundsTest::draw, "", 0);
        CHECK.word(PlatesBoundsTest::draw, "", "box", " 0 0 1 1 1\n");
        CHECK.word(PlatesBoundsTest::draw, "", "line", " 0 0 0 1 1\n");
        CHECK.word(PlatesBoundsTest::draw, "box 0 0 1 1 1\n", "box", " 0 0 1 1 1\n");
        CHECK.word(PlatesBoundsTest::draw, "box 0 0 1 1 1\n", "line", " 0 0 0 1 1\n");
    }

    /** "x, y 0 .. 7, w, h 1 .. 8, TONE 0 .. 16." */
    private static void boxNumbers() {
        CHECK.numbers(PlatesBoundsTest::draw, "box ", 0, 7, " 0 1 1 1\n");
        CHECK.numbers(PlatesBoundsTest::draw, "box 7 ", 0, 7, " 1 1 1\n");
        CHECK.numbers(PlatesBoundsTest::draw, "box 7 0 ", 1, 8, " 1 1\n");
        CHECK.numbers(PlatesBoundsTest::draw, "box 0 7 8 ", 1, 8, " 1\n");
        CHECK.numbers(PlatesBoundsTest::draw, "box 0 0 8 8 ", 0, 16, "\n");
        CHECK.numbers(PlatesBoundsTest::draw, "line 0 0 0 7 1\nbox 0 0 1 1 ", 0, 16, "\n");
    }

    /** "Four NUMBERS 0 .. 7 with a blank ahead of each .. and a TONE likewise." */
    private static void lineNumbers() {
        CHECK.numbers(PlatesBoundsTest::draw, "line ", 0, 7, " 0 0 0 1\n");
        CHECK.numbers(PlatesBoundsTest::draw, "line 3 ", 0, 7, " 3 5 1\n");
        CHECK.numbers(PlatesBoundsTest::draw, "line 3 4 ", 0, 7, " 4 1\n");
        CHECK.numbers(PlatesBoundsTest::draw, "line 3 4 3 ", 0, 7, " 1\n");
        CHECK.numbers(PlatesBoundsTest::draw, "line 0 0 7 0 ", 0, 16, "\n");
        CHECK.numbers(PlatesBoundsTest::draw, "box 0 0 1 1 1\nline 0 0 0 7 ", 0, 16, "\n");
    }

    /** "A line that is neither level nor upright is WRONG at y2." */
    private static void neitherLevelNorUpright() {
        for (int x2 = 0; x2 < 8; x2++) {
            for (int y2 = 0; y2 < 8; y2++) {
                String text = "line 3 4 " + x2 + " " + y2;
                if (x2 == 3 || y2 == 4) {
                    CHECK.right(PlatesBoundsTest::draw, text + " 1\n");
                    CHECK.wrong(PlatesBoundsTest::draw, text, 12);
                } else {
                    CHECK.wrong(PlatesBoundsTest::draw, text + " 1\n", 11);
                    CHECK.wrong(PlatesBoundsTest::draw, text + " 17\n", 11);
                    CHECK.wrong(PlatesBoundsTest::draw, text + "?", 11);
                    CHECK.wrong(PlatesBoundsTest::draw, text, 11);
                }
            }
        }
        CHECK.right(PlatesBoundsTest::draw, "line 3 4 3 4 1\n");
        CHECK.wrong(PlatesBoundsTest::draw, "line 0 0 7 7 1\n", 11);
        CHECK.wrong(PlatesBoundsTest::draw, "line 0 0 7 07 1\n", 12);
        CHECK.wrong(PlatesBoundsTest::draw, "line 0 0 7 1000000 1\n", 17);
        CHECK.wrong(PlatesBoundsTest::draw, "line 0 0 7\n", 10);
    }

    /** "DRAW TEXT: lines, 1 to 40"; "a line too many at its first byte". */
    private static void oneToFortyLines() {
        String line = "box 0 0 1 1 1\n";
        CHECK.wrong(PlatesBoundsTest::draw, "", 0);
        CHECK.wrong(PlatesBoundsTest::draw, "\n", 0);
        for (int lines : new int[] {1, 2, 39, 40}) {
            CHECK.right(PlatesBoundsTest::draw, line.repeat(lines));
        }
        for (String more : new String[] {line, "line 0 0 0 0 0\n", "box", "\n", " ", "?", "0"}) {
            CHECK.wrong(PlatesBoundsTest::draw, line.repeat(40) + more, 560);
        }
        CHECK.wrong(PlatesBoundsTest::draw, line.repeat(41), 560);
        CHECK.wrong(PlatesBoundsTest::draw, line.repeat(39) + "\n", 546);
        CHECK.wrong(PlatesBoundsTest::draw, line.repeat(39) + "box 0 0 1 1 1", 559);
        CHECK.right(PlatesBoundsTest::draw, "line 7 7 7 7 16\n".repeat(40));
        CHECK.wrong(PlatesBoundsTest::draw, "line 7 7 7 7 16\n".repeat(41), 640);
        House x = new House();
        CHECK.due("the fortieth counts", Check.draw(x, 1, line.repeat(39) + WHOLE), 1024);
    }

    private static void blanksAndLineEnds() {
        CHECK.wrong(PlatesBoundsTest::draw, "box\n", 3);
        CHECK.wrong(PlatesBoundsTest::draw, "box  0 0 1 1 1\n", 4);
        CHECK.wrong(PlatesBoundsTest::draw, "box 0 0 1 1\n", 11);
        CHECK.wrong(PlatesBoundsTest::draw, "box 0 0 1 1 1 1\n", 13);
        CHECK.wrong(PlatesBoundsTest::draw, "box 0 0 1 1 1 \n", 13);
        CHECK.wrong(PlatesBoundsTest::draw, "box 0 0 1 1 1\n\n", 14);
        CHECK.wrong(PlatesBoundsTest::draw, "box 0 0 1 1 1\n ", 14);
        CHECK.wrong(PlatesBoundsTest::draw, " box 0 0 1 1 1\n", 0);
        CHECK.wrong(PlatesBoundsTest::draw, "box 0,0 1 1 1\n", 5);
        CHECK.wrong(PlatesBoundsTest::draw, "line 0 0 0 0\n", 12);
        CHECK.wrong(PlatesBoundsTest::draw, "line 0 0 0 0 1 1\n", 14);
    }

    /** "A PAGE, 0 .. 31 .. NONE if there is no such PAGE": ahead of WRONG, and the tape stays. */
    private static void pageBounds() {
        House x = new House();
        for (int page : new int[] {-1, 32, 33, 1000, MIN, MAX}) {
            Check.tape(x, "box 0 0 1 1 7\n");
            CHECK.none("draw(" + page + ")", x.draw(page));
            CHECK.due("the tape stays", x.draw(0), 7);
            Check.tape(x, "?");
            CHECK.none("NONE ahead of WRONG", x.draw(page));
            CHECK.due("WRONG", x.draw(0), -1000);
        }
        x.book(8, 0, 1);
        for (int page = 0; page < 32; page++) {
            CHECK.due("draw(" + page + ")", Check.draw(x, page, "box 0 0 8 8 " + page % 17 + "\n"), 64 * (page % 17));
        }
        for (int page = 0; page < 32; page++) {
            int column = x.where(page, 3);
            int side = x.where(page, 1);
            x.mount(x.where(page, 0), side);
            CHECK.due("coverage of page " + page, x.zone(side == 0 ? column : 1 - column, 0), 4 * (page % 17));
        }
    }

    /** What is drawn on 0 .. 31 is there as soon as the BOOK has the PAGE. */
    private static void pagesBeyondThoseOfTheBook() {
        House x = new House();
        CHECK.due("draw(31), of four pages", Check.draw(x, 31, WHOLE), 1024);
        x.book(8, 0, 1);
        CHECK.due("page 31", x.point(7, 1, 0, 0), 1);
        CHECK.due("page 30", x.point(7, 0, 8, 0), 0);
    }

    /** "Other PAGES are 0": those from 32 on. */
    private static void otherPagesAreZero() {
        House x = new House();
        for (int page = 0; page < 32; page++) {
            Check.draw(x, page, WHOLE);
        }
        Check.fold(x, "sheet 1 1\nfold \n");
        x.book(8, 0, 1);
        CHECK.due("page 15", x.point(7, 1, 7, 7), 1);
        Check.fold(x, "sheet 1 4\nfold ll\n");
        CHECK.due("page 31 is drawn", x.point(x.where(31, 0), 1, 0, 0), 1);
        CHECK.due("page 32 is 0", x.point(4, x.where(32, 1), plateColumn(x, 32, 4) * 8, 0), 0);
        CHECK.due("page 63 is 0", x.point(7, x.where(63, 1), plateColumn(x, 63, 4) * 8, 0), 0);
        x.mount(3, 0);
        CHECK.due("a sheet of pages below 32", x.zone(0, 0), 64);
        x.mount(4, 0);
        for (int zone = 0; zone < 4; zone++) {
            CHECK.due("a sheet of pages from 32 on", x.zone(zone, 0), 0);
        }
    }

    private static int plateColumn(House x, int page, int columns) {
        int column = x.where(page, 3);
        return x.where(page, 1) == 0 ? column : columns - 1 - column;
    }

    /** "These DOTS of the PAGE, as far as they lie in it." */
    private static void asFarAsTheyLieInIt() {
        for (int at = 0; at < 8; at++) {
            House x = new House();
            for (int size : new int[] {1, 7 - at, 8 - at, 9 - at, 8}) {
                if (size >= 1 && size <= 8) {
                    int inside = Math.min(size, 8 - at);
                    CHECK.due("wide " + size + " at " + at, draw(x, "box " + at + " 3 " + size + " 1 1\n"), inside);
                    CHECK.due("high " + size + " at " + at, draw(x, "box 3 " + at + " 1 " + size + " 1\n"), inside);
                }
            }
        }
        House y = new House();
        CHECK.due("the last DOT", Check.draw(y, 1, "box 7 7 8 8 16\n"), 16);
        for (int i = 0; i < 64; i++) {
            CHECK.due("dot " + i, y.point(0, 0, i % 8, i / 8), i == 63 ? 1 : 0);
        }
        CHECK.due("none on the next page", y.point(0, 0, 8, 0), 0);
    }

    /** "From the one to the other", both of them in it. */
    private static void linesBothWays() {
        for (int from = 0; from < 8; from++) {
            House x = new House();
            for (int to = 0; to < 8; to++) {
                int many = Math.abs(to - from) + 1;
                CHECK.due("level", Check.draw(x, 1, "line " + from + " 2 " + to + " 2 16\n"), 16 * many);
                for (int i = 0; i < 8; i++) {
                    boolean in = i >= Math.min(from, to) && i <= Math.max(from, to);
                    CHECK.due("level at " + i, x.point(0, 0, i, 2), in ? 1 : 0);
                }
                CHECK.due("upright", Check.draw(x, 1, "line 5 " + from + " 5 " + to + " 16\n"), 16 * many);
                for (int i = 0; i < 8; i++) {
                    boolean in = i >= Math.min(from, to) && i <= Math.max(from, to);
                    CHECK.due("upright at " + i, x.point(0, 0, 5, i), in ? 1 : 0);
                }
            }
        }
    }

    private static void laterOverEarlier() {
        House x = new House();
        CHECK.due("a box of 0 over all", draw(x, WHOLE + "box 0 0 8 8 0\n"), 0);
        CHECK.due("and back", draw(x, "box 0 0 8 8 0\n" + WHOLE), 1024);
        CHECK.due("a line over a box", draw(x, WHOLE + "line 0 0 7 0 15\n"), 1016);
        CHECK.due("a box over a line", draw(x, "line 0 0 7 0 15\nbox 0 0 1 1 1\n"), 7 * 15 + 1);
    }

    /** "That is all 0 ahead of it." */
    private static void allZeroAhead() {
        House x = new House();
        CHECK.due("all", Check.draw(x, 1, WHOLE), 1024);
        CHECK.due("one alone", Check.draw(x, 1, "box 7 7 1 1 1\n"), 1);
        CHECK.due("the others are 0", x.point(0, 0, 0, 0), 0);
        CHECK.due("tone 0", Check.draw(x, 1, "box 7 7 1 1 0\n"), 0);
        CHECK.due("on another page", Check.draw(x, 2, "box 0 0 1 1 5\n"), 5);
    }

    private static void wrongTextsChangeNothing() {
        String right = "box 0 0 8 8 0\nline 0 0 7 0 16\n";
        for (int length = 0; length <= right.length(); length++) {
            House x = new House();
            Check.draw(x, 1, "box 0 0 4 8 16\n");
            CHECK.due("wrong", Check.draw(x, 1, right.substring(0, length) + "?") <= -1000);
            CHECK.due("drawn", x.point(0, 0, 3, 7), 1);
            CHECK.due("not drawn", x.point(0, 0, 4, 0), 0);
            x.mount(0, 0);
            CHECK.due("coverage", x.zone(0, 0), 32);
        }
    }

    /** "1 if the DOT's TONE is above THRESHOLD": the same TONE is not above, one more is. */
    private static void toneAboveThreshold() {
        for (int y = 0; y < 8; y++) {
            for (int x = 0; x < 8; x++) {
                int threshold = THRESHOLDS[y % 4][x % 4];
                House house = new House();
                for (int tone = threshold; tone <= threshold + 1; tone++) {
                    Check.draw(house, 1, "box " + x + " " + y + " 1 1 " + tone + "\n");
                    CHECK.due("tone " + tone + " at " + x + ", " + y, house.point(0, 0, x, y), tone - threshold);
                    house.mount(0, 0);
                    CHECK.due("coverage", house.zone(0, 0), tone - threshold);
                }
                Check.draw(house, 1, "box " + x + " " + y + " 1 1 16\n");
                CHECK.due("tone 16", house.point(0, 0, x, y), 1);
                Check.draw(house, 1, "box " + x + " " + y + " 1 1 0\n");
                CHECK.due("tone 0", house.point(0, 0, x, y), 0);
            }
        }
    }

    private static void thresholdsRunOnAcrossPanels() {
        House x = new House();
        Check.fold(x, "sheet 2 2\nfold lt\n");
        for (int page = 0; page < 8; page++) {
            Check.draw(x, page, "box 0 0 8 8 9\n");
        }
        for (int side = 0; side < 2; side++) {
            for (int i = 0; i < 256; i++) {
                CHECK.due("point " + i, x.point(0, side, i % 16, i / 16),
                        9 > THRESHOLDS[i / 16 % 4][i % 4] ? 1 : 0);
            }
        }
    }

    /** "ROWS * 8 by COLUMNS * 8 POINTS .. NONE if there is none such." */
    private static void pointBounds() {
        int[] sides = {1, 2, 4, 8};
        for (int down = 0; down < 4; down++) {
            for (int across = 0; across < 4; across++) {
                House x = new House();
                int rows = sides[down];
                int columns = sides[across];
                Check.fold(x, "sheet " + rows + " " + columns + "\nfold " + "ttt".substring(0, down)
                        + "lll".substring(0, across) + "\n");
                int sheets = 1 + down + across;
                x.book(sheets, 1, 1);
                for (int side = 0; side < 2; side++) {
                    CHECK.due("first", x.point(0, side, 0, 0), 0);
                    CHECK.due("last", x.point(sheets - 1, side, columns * 8 - 1, rows * 8 - 1), 0);
                    for (int at : new int[] {-1, -8, columns * 8, columns * 8 + 1, MIN, MAX}) {
                        CHECK.none("x " + at, x.point(0, side, at, 0));
                        CHECK.none("x " + at, x.point(0, side, at, rows * 8 - 1));
                    }
                    for (int y : new int[] {-1, -8, rows * 8, rows * 8 + 1, MIN, MAX}) {
                        CHECK.none("y " + y, x.point(0, side, 0, y));
                        CHECK.none("y " + y, x.point(0, side, columns * 8 - 1, y));
                    }
                    for (int s : new int[] {-1, sheets, sheets + 1, MIN, MAX}) {
                        CHECK.none("SHEET " + s, x.point(s, side, 0, 0));
                    }
                }
                for (int side : new int[] {-1, 2, MIN, MAX}) {
                    CHECK.none("side " + side, x.point(0, side, 0, 0));
                }
            }
        }
    }

    /** "PANEL (r, c) lies at column COLUMNS - 1 - c" of the BACK's plate; its PAGE itself is not turned round. */
    private static void backIsTurnedAboutItsUprightMiddle() {
        for (int across = 0; across < 4; across++) {
            int columns = 1 << across;
            for (int column = 0; column < columns; column++) {
                House x = new House();
                Check.fold(x, "sheet 1 " + columns + "\nfold " + "lll".substring(0, across) + "\n");
                Check.draw(x, x.page(0, 1, 0, column), "box 0 0 1 1 16\n");
                CHECK.due("zones", x.mount(0, 1), columns);
                for (int zone = 0; zone < columns; zone++) {
                    boolean there = zone == columns - 1 - column;
                    CHECK.due("BACK, zone " + zone, x.zone(zone, 0), there ? 1 : 0);
                    CHECK.due("its left DOT", x.point(0, 1, zone * 8, 0), there ? 1 : 0);
                    CHECK.due("not its right DOT", x.point(0, 1, zone * 8 + 7, 0), 0);
                }
                Check.draw(x, x.page(0, 1, 0, column), "box 0 0 1 1 0\n");
                Check.draw(x, x.page(0, 0, 0, column), "box 0 0 1 1 16\n");
                x.mount(0, 0);
                for (int zone = 0; zone < columns; zone++) {
                    CHECK.due("FRONT, zone " + zone, x.zone(zone, 0), zone == column ? 1 : 0);
                }
            }
        }
    }

    /** An upside down PAGE is turned by half: its first DOT lies last. */
    private static void turnedByHalf() {
        House x = new House();
        Check.fold(x, "sheet 2 1\nfold t\n");
        Check.draw(x, 1, "box 0 0 1 1 16\n");
        Check.draw(x, 2, "box 0 0 1 1 16\n");
        for (int i = 0; i < 128; i++) {
            CHECK.due("FRONT " + i, x.point(0, 0, i % 8, i / 8), i == 63 || i == 64 ? 1 : 0);
        }
        Check.draw(x, 0, "box 7 7 1 1 16\n");
        Check.draw(x, 3, "box 7 7 1 1 16\n");
        for (int i = 0; i < 128; i++) {
            CHECK.due("BACK " + i, x.point(0, 1, i % 8, i / 8), i == 0 || i == 127 ? 1 : 0);
        }
        Check.draw(x, 1, "box 1 0 1 1 11\n");
        CHECK.due("its THRESHOLD is that of the plate: 13", x.point(0, 0, 6, 7), 0);
        Check.draw(x, 1, "box 1 0 1 1 14\n");
        CHECK.due("14 is above 13", x.point(0, 0, 6, 7), 1);
    }

    /** "As the BOOK and its PAGES are now." */
    private static void asThePagesAreNow() {
        House x = new House();
        Check.draw(x, 1, WHOLE);
        CHECK.due("page 1 on the left", x.point(0, 0, 0, 0), 1);
        Check.fold(x, "sheet 1 2\nfold r\n");
        CHECK.due("page 2 on the left", x.point(0, 0, 0, 0), 0);
        CHECK.due("page 1 on the right", x.point(0, 0, 8, 0), 1);
        x.book(2, 1, 1);
        CHECK.due("page 1 on the right of the first sheet", x.point(0, 0, 8, 0), 1);
        CHECK.due("not of the second one", x.point(1, 0, 8, 0), 0);
        Check.draw(x, 1, "box 0 0 1 1 0\n");
        CHECK.due("drawn anew", x.point(0, 0, 8, 0), 0);
    }
}
