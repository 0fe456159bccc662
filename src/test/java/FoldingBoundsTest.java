/** The boundary cases of Part III and of promises 6 to 9, sentence by sentence. */
public final class FoldingBoundsTest {
    private static final Check CHECK = new Check();
    private static final int[] SIDES = {1, 2, 4, 8};
    private static final int MIN = Integer.MIN_VALUE;
    private static final int MAX = Integer.MAX_VALUE;

    public static void main(String[] args) {
        words();
        rowsAndColumns();
        justAsManyFolds();
        lettersThatCantBe();
        noFoldsAtAll();
        twoLines();
        atFirst();
        eachFoldOfTwo();
        anyOrderOfFolds();
        turnedOverAndUpsideDown();
        bookSheets();
        bookWays();
        bookCalipers();
        refusedBooksChangeNothing();
        bookPages();
        pageBounds();
        whereBounds();
        whereIsWherePageTellsIt();
        gathered();
        nestedHalves();
        nestedSingleLeaves();
        creepAtBothEndsAndInTheMiddle();
        foldKeepsTheBook();
        wrongTextsChangeNothing();
        CHECK.finish();
    }

    private static int halvings(int side) {
        return side == 8 ? 3 : side == 4 ? 2 : side == 2 ? 1 : 0;
    }

    private static String sheet(int rows, int columns) {
        return "sheet " + rows + " " + columns + "\nfold ";
    }

    private static void words() {
        CHECK.wrong(Check::fold, "", 0);
        CHECK.word(Check::fold, "", "sheet", " 1 2\nfold l\n");
        CHECK.word(Check::fold, "sheet 1 2\n", "fold", " l\n");
        CHECK.wrong(Check::fold, "fold l\n", 0);
        CHECK.wrong(Check::fold, "sheet 1 2\nsheet 1 2\n", 10);
    }

    /** "Each 1, 2, 4 or 8 of them." */
    private static void rowsAndColumns() {
        for (int n = 0; n <= 17; n++) {
            boolean right = n == 1 || n == 2 || n == 4 || n == 8;
            String folds = n > 8 ? "" : "lll".substring(0, halvings(n));
            if (right) {
                CHECK.right(Check::fold, sheet(n, 1) + folds.replace('l', 't') + "\n");
                CHECK.right(Check::fold, sheet(1, n) + folds + "\n");
                CHECK.wrong(Check::fold, "sheet " + n, 7);
                CHECK.wrong(Check::fold, "sheet 1 " + n, 9);
            } else {
                CHECK.wrong(Check::fold, sheet(n, 1) + "\n", 6);
                CHECK.wrong(Check::fold, sheet(1, n) + "\n", 8);
                CHECK.wrong(Check::fold, "sheet " + n, 6);
                CHECK.wrong(Check::fold, "sheet 1 " + n, 8);
                CHECK.wrong(Check::fold, "sheet " + n + "?", 6);
            }
        }
        for (String ahead : new String[] {"sheet ", "sheet 2 "}) {
            int from = ahead.length();
            CHECK.wrong(Check::fold, ahead, from);
            CHECK.wrong(Check::fold, ahead + "x", from);
            CHECK.wrong(Check::fold, ahead + "-1", from);
            CHECK.wrong(Check::fold, ahead + "01", from + 1);
            CHECK.wrong(Check::fold, ahead + "100000", from);
            CHECK.wrong(Check::fold, ahead + "1000000", from + 6);
            CHECK.wrong(Check::fold, ahead + "8?", from + 1);
        }
        CHECK.wrong(Check::fold, "sheet 16 1\nfold tttt\n", 6);
        CHECK.wrong(Check::fold, "sheet 1 32\n", 8);
        CHECK.wrong(Check::fold, "sheet 08 1\n", 7);
        CHECK.wrong(Check::fold, "sheet 1 02\n", 9);
        CHECK.wrong(Check::fold, "sheet 2 1000000\n", 14);
        CHECK.wrong(Check::fold, "sheet 2 999999\n", 8);
    }

    /** "Just as many l and r together as halve COLUMNS to 1, t and b as halve ROWS to 1." */
    private static void justAsManyFolds() {
        for (int rows : SIDES) {
            for (int columns : SIDES) {
                String ahead = sheet(rows, columns);
                String down = "tbt".substring(0, halvings(rows));
                String across = "rlr".substring(0, halvings(columns));
                CHECK.right(Check::fold, ahead + down + across + "\n");
                CHECK.right(Check::fold, ahead + across + down + "\n");
                int length = ahead.length() + down.length() + across.length();
                CHECK.wrong(Check::fold, ahead + down + across, length);
                for (char more : new char[] {'l', 'r', 't', 'b', 'x', ' ', '1', '?'}) {
                    CHECK.wrong(Check::fold, ahead + down + across + more + "\n", length);
                }
                for (char more : new char[] {'l', 'r'}) {
                    CHECK.wrong(Check::fold, ahead + across + more, ahead.length() + across.length());
                    CHECK.wrong(Check::fold, ahead + across + more + down, ahead.length() + across.length());
                }
                for (char more : new char[] {'t', 'b'}) {
                    CHECK.wrong(Check::fold, ahead + down + more, ahead.length() + down.length());
                    CHECK.wrong(Check::fold, ahead + down + more + across, ahead.length() + down.length());
                }
                for (int few = 0; few < down.length() + across.length(); few++) {
                    String some = ahead + (down + across).substring(0, few);
                    CHECK.wrong(Check::fold, some + "\n", some.length());
                    CHECK.wrong(Check::fold, some, some.length());
                }
            }
        }
    }

    /** "A letter that can't be is WRONG": any other byte at a letter's place. */
    private static void lettersThatCantBe() {
        String ahead = sheet(2, 2);
        for (int b = 32; b < 127; b++) {
            boolean across = b == 'l' || b == 'r';
            boolean down = b == 't' || b == 'b';
            if (across) {
                CHECK.right(Check::fold, ahead + (char) b + "t\n");
            } else if (down) {
                CHECK.right(Check::fold, ahead + (char) b + "l\n");
            } else {
                CHECK.wrong(Check::fold, ahead + (char) b + "t\n", ahead.length());
                CHECK.wrong(Check::fold, ahead + "l" + (char) b + "\n", ahead.length() + 1);
            }
        }
    }

    /** "Of none at all the blank stands." */
    private static void noFoldsAtAll() {
        House x = new House();
        CHECK.due("no folds", Check.fold(x, "sheet 1 1\nfold \n"), 1);
        CHECK.due("one leaf", x.count(5), 1);
        CHECK.due("its upper side", x.page(0, 0, 0, 0), 0);
        CHECK.due("its lower side", x.page(0, 1, 0, 0), 1);
        CHECK.wrong(Check::fold, "sheet 1 1\nfold\n", 14);
        CHECK.wrong(Check::fold, "sheet 1 1\nfold", 14);
        CHECK.wrong(Check::fold, "sheet 1 1\nfold ", 15);
        CHECK.wrong(Check::fold, "sheet 1 1\nfold  \n", 15);
    }

    private static void twoLines() {
        CHECK.wrong(Check::fold, "sheet 1 2\n", 10);
        CHECK.wrong(Check::fold, "sheet 1 2", 9);
        CHECK.wrong(Check::fold, "sheet 1 2 \nfold l\n", 9);
        CHECK.wrong(Check::fold, "sheet 1 2\n\nfold l\n", 10);
        CHECK.wrong(Check::fold, "sheet  1 2\n", 6);
        CHECK.wrong(Check::fold, "sheet 1  2\n", 8);
        CHECK.wrong(Check::fold, "sheet 1\n", 7);
        CHECK.wrong(Check::fold, "sheet 1 2\nfold  l\n", 15);
        String right = "sheet 1 2\nfold l\n";
        for (String more : new String[] {"\n", "fold l\n", "sheet", " ", "x", "?", "0"}) {
            CHECK.wrong(Check::fold, right + more, right.length());
        }
    }

    /** "At first: 1 ROW, 2 COLUMNS, fold l; 1 SHEET, GATHERED, CALIPER 1." */
    private static void atFirst() {
        House x = new House();
        CHECK.due("leaves", x.count(5), 2);
        CHECK.due("sheets", x.count(6), 1);
        pages(x, 1, 2, new int[][] {{1, 0}, {2, 3}});
        House y = new House();
        CHECK.due("fold", Check.fold(y, "sheet 2 2\nfold lt\n"), 4);
        CHECK.due("caliper 1", y.where(3, 4), 1);
        CHECK.none("one sheet", y.where(8, 0));
        House z = new House();
        z.book(2, 0, 1);
        CHECK.due("gathered: the second sheet's first page", z.page(1, 1, 0, 0), 4);
    }

    /** Both sides of each PANEL, FRONT and BACK, row by row. */
    private static void pages(House x, int rows, int columns, int[][] due) {
        for (int panel = 0; panel < due.length; panel++) {
            for (int side = 0; side < 2; side++) {
                CHECK.due("panel " + panel + ", side " + side,
                        x.page(0, side, panel / columns, panel % columns), due[panel][side]);
            }
        }
        CHECK.none("a row more", x.page(0, 0, rows, 0));
        CHECK.none("a column more", x.page(0, 0, 0, columns));
    }

    private static void eachFoldOfTwo() {
        House x = new House();
        CHECK.due("r", Check.fold(x, "sheet 1 2\nfold r\n"), 2);
        pages(x, 1, 2, new int[][] {{2, 3}, {1, 0}});
        CHECK.due("l", Check.fold(x, "sheet 1 2\nfold l\n"), 2);
        pages(x, 1, 2, new int[][] {{1, 0}, {2, 3}});
        CHECK.due("t", Check.fold(x, "sheet 2 1\nfold t\n"), 2);
        pages(x, 2, 1, new int[][] {{1001, 1000}, {2, 3}});
        CHECK.due("b", Check.fold(x, "sheet 2 1\nfold b\n"), 2);
        pages(x, 2, 1, new int[][] {{2, 3}, {1001, 1000}});
    }

    /** "In any order": the same letters in another order give another pile. */
    private static void anyOrderOfFolds() {
        House x = new House();
        CHECK.due("lt", Check.fold(x, "sheet 2 2\nfold lt\n"), 4);
        pages(x, 2, 2, new int[][] {{1002, 1003}, {1001, 1000}, {5, 4}, {6, 7}});
        CHECK.due("tl", Check.fold(x, "sheet 2 2\nfold tl\n"), 4);
        pages(x, 2, 2, new int[][] {{1002, 1003}, {1005, 1004}, {1, 0}, {6, 7}});
        CHECK.due("rb", Check.fold(x, "sheet 2 2\nfold rb\n"), 4);
        pages(x, 2, 2, new int[][] {{6, 7}, {5, 4}, {1001, 1000}, {1002, 1003}});
        CHECK.due("lr", Check.fold(x, "sheet 1 4\nfold lr\n"), 4);
        pages(x, 1, 4, new int[][] {{2, 3}, {5, 4}, {6, 7}, {1, 0}});
    }

    /** An odd number of turns shows the BACK, an even one the FRONT; by t and b alone it stands upside down. */
    private static void turnedOverAndUpsideDown() {
        House x = new House();
        CHECK.due("tt", Check.fold(x, "sheet 4 1\nfold tt\n"), 4);
        pages(x, 4, 1, new int[][] {{1005, 1004}, {2, 3}, {1001, 1000}, {6, 7}});
        CHECK.due("ttt", Check.fold(x, "sheet 8 1\nfold ttt\n"), 8);
        for (int row = 0; row < 8; row++) {
            int front = x.page(0, 0, row, 0);
            int back = x.page(0, 1, row, 0);
            CHECK.due("both sides of row " + row + " stand alike", front >= 1000 == back >= 1000);
            CHECK.due("upside down if turned: row " + row, front >= 1000 == (front % 2 == 1));
        }
        CHECK.due("lll", Check.fold(x, "sheet 1 8\nfold lll\n"), 8);
        for (int column = 0; column < 8; column++) {
            CHECK.due("l never stands upside down", x.page(0, 0, 0, column) < 1000);
        }
    }

    private static final class Book {
        private final House x = new House();

        Book(String folds) {
            CHECK.due(folds, Check.fold(x, folds) > 0);
        }
    }

    /** "S SHEETS, 1 .. 8." */
    private static void bookSheets() {
        House x = new House();
        for (int sheets = 1; sheets <= 8; sheets++) {
            CHECK.due("book(" + sheets + ", 0, 1)", x.book(sheets, 0, 1), 4 * sheets);
            CHECK.due("count(6)", x.count(6), sheets);
        }
        for (int sheets : new int[] {0, 9, -1, 10, MIN, MAX}) {
            CHECK.none("book(" + sheets + ", 0, 1)", x.book(sheets, 0, 1));
            CHECK.none("book(" + sheets + ", 1, 99)", x.book(sheets, 1, 99));
            CHECK.due("it stays", x.count(6), 8);
        }
    }

    /** "In a way 0 GATHERED or 1 NESTED." */
    private static void bookWays() {
        House x = new House();
        CHECK.due("GATHERED", x.book(2, 0, 1), 8);
        CHECK.due("the second sheet behind the first", x.where(4, 0), 1);
        CHECK.due("page 7", x.where(7, 0), 1);
        CHECK.due("NESTED", x.book(2, 1, 1), 8);
        CHECK.due("the second sheet in the first", x.where(4, 0), 1);
        CHECK.due("page 7", x.where(7, 0), 0);
        for (int way : new int[] {-1, 2, 3, MIN, MAX}) {
            CHECK.none("book(2, " + way + ", 1)", x.book(2, way, 1));
            CHECK.due("NESTED stays", x.where(7, 0), 0);
        }
    }

    /** "Of a CALIPER 1 .. 99." */
    private static void bookCalipers() {
        House x = new House();
        for (int caliper : new int[] {1, 2, 98, 99}) {
            CHECK.due("book(2, 0, " + caliper + ")", x.book(2, 0, caliper), 8);
            CHECK.due("creep", x.where(2, 4), caliper);
        }
        for (int caliper : new int[] {0, 100, -1, 101, MIN, MAX}) {
            CHECK.none("book(2, 0, " + caliper + ")", x.book(2, 0, caliper));
            CHECK.due("99 stays", x.where(2, 4), 99);
        }
    }

    /** "NONE, and it stays, if one of these can't be": none of the three changes. */
    private static void refusedBooksChangeNothing() {
        int[][] refused = {{0, 0, 5}, {9, 0, 5}, {2, -1, 5}, {2, 2, 5}, {2, 0, 0}, {2, 0, 100}, {9, 2, 100}};
        for (int[] book : refused) {
            House x = new House();
            CHECK.due("book(3, 1, 7)", x.book(3, 1, 7), 12);
            CHECK.none("refused", x.book(book[0], book[1], book[2]));
            CHECK.due("sheets stay", x.count(6), 3);
            CHECK.due("NESTED stays", x.where(11, 0), 0);
            CHECK.due("CALIPER stays", x.where(2, 4), 7);
            CHECK.none("pages stay", x.where(12, 0));
        }
    }

    private static void bookPages() {
        for (int rows : SIDES) {
            for (int columns : SIDES) {
                House x = new House();
                String text = sheet(rows, columns) + "ttt".substring(0, halvings(rows))
                        + "lll".substring(0, halvings(columns)) + "\n";
                CHECK.due("leaves of " + text, Check.fold(x, text), rows * columns);
                CHECK.due("count(5)", x.count(5), rows * columns);
                for (int sheets : new int[] {1, 3, 8}) {
                    int pages = sheets * rows * columns * 2;
                    CHECK.due("pages", x.book(sheets, sheets % 2, 9), pages);
                    CHECK.due("the last page is there", x.where(pages - 1, 4), 0);
                    CHECK.none("none behind it", x.where(pages, 4));
                    CHECK.none("none ahead of the first", x.where(-1, 4));
                }
            }
        }
    }

    /** "NONE if there is none such": SHEET, side, row and column, each on both sides of its ends. */
    private static void pageBounds() {
        for (int rows : SIDES) {
            for (int columns : SIDES) {
                House x = new Book(sheet(rows, columns) + "bbb".substring(0, halvings(rows))
                        + "rrr".substring(0, halvings(columns)) + "\n").x;
                int sheets = 1 + (rows + columns) % 8;
                x.book(sheets, 0, 1);
                CHECK.due("the first", x.page(0, 0, 0, 0) != PaperHouse.NONE);
                CHECK.due("the last", x.page(sheets - 1, 1, rows - 1, columns - 1) != PaperHouse.NONE);
                for (int s : new int[] {-1, sheets, sheets + 1, MIN, MAX}) {
                    CHECK.none("SHEET " + s, x.page(s, 0, 0, 0));
                }
                for (int side : new int[] {-1, 2, MIN, MAX}) {
                    CHECK.none("side " + side, x.page(0, side, 0, 0));
                }
                for (int row : new int[] {-1, rows, rows + 1, MIN, MAX}) {
                    CHECK.none("row " + row, x.page(0, 0, row, 0));
                    CHECK.none("row " + row, x.page(sheets - 1, 1, row, columns - 1));
                }
                for (int column : new int[] {-1, columns, columns + 1, MIN, MAX}) {
                    CHECK.none("column " + column, x.page(0, 0, 0, column));
                    CHECK.none("column " + column, x.page(sheets - 1, 1, rows - 1, column));
                }
            }
        }
    }

    private static void whereBounds() {
        House x = new House();
        for (int sheets : new int[] {1, 8}) {
            x.book(sheets, sheets % 2, 7);
            for (int what = 0; what <= 4; what++) {
                CHECK.due("where(0, " + what + ")", x.where(0, what) >= 0);
                CHECK.due("where(last, " + what + ")", x.where(4 * sheets - 1, what) >= 0);
                for (int page : new int[] {-1, 4 * sheets, 4 * sheets + 1, 1000, MIN, MAX}) {
                    CHECK.none("where(" + page + ", " + what + ")", x.where(page, what));
                }
            }
            for (int what : new int[] {-1, 5, 6, MIN, MAX}) {
                CHECK.none("where(0, " + what + ")", x.where(0, what));
            }
        }
        CHECK.due("the first page", x.where(0, 1), 1);
        CHECK.due("of the left PANEL", x.where(0, 3), 0);
        CHECK.due("the last page of the first sheet", x.where(3, 3), 1);
        CHECK.due("row", x.where(3, 2), 0);
        CHECK.due("book(1, 0, 1)", x.book(1, 0, 1), 4);
        CHECK.none("pages of sheets that went", x.where(4, 0));
    }

    /** From the first PAGE to the last one, where() is the place at which page() tells it. */
    private static void whereIsWherePageTellsIt() {
        String[] folds = {"sheet 1 1\nfold \n", "sheet 2 2\nfold tl\n", "sheet 8 1\nfold btb\n",
            "sheet 1 8\nfold rlr\n", "sheet 8 8\nfold lrltbt\n"};
        int[] leaves = {1, 4, 8, 8, 64};
        for (int f = 0; f < folds.length; f++) {
            House x = new Book(folds[f]).x;
            for (int way = 0; way < 2; way++) {
                int pages = x.book(3, way, 1);
                CHECK.due("pages", pages, 6 * leaves[f]);
                for (int page = 0; page < pages; page++) {
                    int told = x.page(x.where(page, 0), x.where(page, 1), x.where(page, 2), x.where(page, 3));
                    CHECK.due("page", told % 1000, page);
                }
            }
        }
    }

    /** "Page p, from 0 on, of SHEET s is PAGE s * 2 * LEAVES + p." */
    private static void gathered() {
        House x = new House();
        x.book(8, 0, 1);
        for (int page = 0; page < 32; page++) {
            CHECK.due("sheet of page " + page, x.where(page, 0), page / 4);
        }
        for (int s = 0; s < 8; s++) {
            CHECK.due("first of sheet " + s, x.page(s, 1, 0, 0), 4 * s);
            CHECK.due("last of sheet " + s, x.page(s, 1, 0, 1), 4 * s + 3);
        }
    }

    /** "Each lies in the middle of the one before": LEAVES 2, the halves are one LEAF each. */
    private static void nestedHalves() {
        House x = new House();
        x.book(8, 1, 1);
        for (int s = 0; s < 8; s++) {
            CHECK.due("front LEAF of sheet " + s, x.page(s, 1, 0, 0), 2 * s);
            CHECK.due("its lower side", x.page(s, 0, 0, 0), 2 * s + 1);
            CHECK.due("LEAF behind of sheet " + s, x.page(s, 0, 0, 1), 30 - 2 * s);
            CHECK.due("its lower side", x.page(s, 1, 0, 1), 31 - 2 * s);
        }
        House y = new Book("sheet 1 4\nfold ll\n").x;
        y.book(2, 1, 1);
        int[] sheets = {0, 0, 0, 0, 1, 1, 1, 1, 1, 1, 1, 1, 0, 0, 0, 0};
        for (int page = 0; page < 16; page++) {
            CHECK.due("sheet of page " + page, y.where(page, 0), sheets[page]);
        }
    }

    /** "LEAVES / 2 being rounded down": of one LEAF none is in the front half, so the first SHEET is the last one. */
    private static void nestedSingleLeaves() {
        House x = new Book("sheet 1 1\nfold \n").x;
        for (int sheets : new int[] {1, 2, 8}) {
            x.book(sheets, 1, 1);
            for (int s = 0; s < sheets; s++) {
                CHECK.due("FRONT of sheet " + s, x.page(s, 0, 0, 0), 2 * (sheets - 1 - s));
                CHECK.due("BACK of sheet " + s, x.page(s, 1, 0, 0), 2 * (sheets - 1 - s) + 1);
            }
            for (int page = 0; page < 2 * sheets; page++) {
                CHECK.due("sheet of page " + page, x.where(page, 0), sheets - 1 - page / 2);
            }
        }
    }

    /** "The lesser one of its place, and that from the end, both from 0", in the whole BOOK in both ways. */
    private static void creepAtBothEndsAndInTheMiddle() {
        House x = new Book("sheet 1 1\nfold \n").x;
        int[] odd = {0, 10, 20, 10, 0};
        int[] even = {0, 10, 10, 0};
        for (int way = 0; way < 2; way++) {
            x.book(5, way, 10);
            for (int page = 0; page < 10; page++) {
                CHECK.due("five: creep of page " + page, x.where(page, 4), odd[page / 2]);
            }
            x.book(4, way, 10);
            for (int page = 0; page < 8; page++) {
                CHECK.due("four: creep of page " + page, x.where(page, 4), even[page / 2]);
            }
        }
        House y = new Book("sheet 8 8\nfold lrltbt\n").x;
        y.book(8, 1, 99);
        CHECK.due("the middle, ahead", y.where(511, 4), 255 * 99);
        CHECK.due("the middle, behind", y.where(512, 4), 255 * 99);
        CHECK.due("the end", y.where(1023, 4), 0);
    }

    private static void foldKeepsTheBook() {
        House x = new House();
        x.book(3, 1, 7);
        CHECK.due("fold", Check.fold(x, "sheet 2 2\nfold lt\n"), 4);
        CHECK.due("sheets", x.count(6), 3);
        CHECK.due("the last page", x.where(23, 0), 0);
        CHECK.none("none behind", x.where(24, 0));
        CHECK.due("NESTED", x.where(4, 0), 1);
        CHECK.due("CALIPER", x.where(4, 4), 14);
    }

    /** "WRONG texts change nothing", at whatever byte they end. */
    private static void wrongTextsChangeNothing() {
        String right = "sheet 2 4\nfold tlr\n";
        for (int length = 0; length <= right.length(); length++) {
            House x = new Book("sheet 2 2\nfold rb\n").x;
            CHECK.due("wrong", Check.fold(x, right.substring(0, length) + "?"), -1000 - wrongPlace(length));
            pages(x, 2, 2, new int[][] {{6, 7}, {5, 4}, {1001, 1000}, {1002, 1003}});
            CHECK.due("leaves", x.count(5), 4);
        }
    }

    /** Where "sheet 2 4/fold tlr/" cut off and a ? is WRONG: a WORD begun at its first byte, else at the ?. */
    private static int wrongPlace(int length) {
        if (length < 5) {
            return 0;
        }
        return length >= 10 && length < 14 ? 10 : length;
    }
}
