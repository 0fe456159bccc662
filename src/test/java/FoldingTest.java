import java.util.Random;

/** Promises 6 to 9, and counts 5 and 6 of promise 40. */
public final class FoldingTest {
    private static final Check CHECK = new Check();

    public static void main(String[] args) {
        wrongTexts();
        atFirst();
        singleFolds();
        bookLimits();
        nestedOddLeaves();
        wrongChangesNothing();
        anyFolds();
        CHECK.finish();
    }

    private static void wrong(String text, int place) {
        House x = new House();
        CHECK.due("fold of " + text.replace("\n", "/"), Check.fold(x, text), -1000 - place);
        CHECK.due("leaves stay", x.count(5), 2);
    }

    private static void wrongTexts() {
        wrong("", 0);
        wrong("shee", 0);
        wrong("sheet", 5);
        wrong("sheets 1 1\n", 0);
        wrong("sheet 0 1\n", 6);
        wrong("sheet 3 1\n", 6);
        wrong("sheet 9 1\n", 6);
        wrong("sheet 16 1\n", 6);
        wrong("sheet 1 5\n", 8);
        wrong("sheet 01 5\n", 7);
        wrong("sheet 1 1\nfold\n", 14);
        wrong("sheet 1 1\nfolds \n", 10);
        wrong("sheet 1 1\nfold l\n", 15);
        wrong("sheet 1 1\nfold  \n", 15);
        wrong("sheet 1 1\nfold ", 15);
        wrong("sheet 1 1\nfold \nx", 16);
        wrong("sheet 1 1\nfold \n\n", 16);
        wrong("sheet 1 2\nfold t\n", 15);
        wrong("sheet 2 1\nfold l\n", 15);
        wrong("sheet 2 2\nfold l\n", 16);
        wrong("sheet 2 2\nfold l", 16);
        wrong("sheet 2 2\nfold ll\n", 16);
        wrong("sheet 2 2\nfold lr\n", 16);
        wrong("sheet 2 2\nfold tb\n", 16);
        wrong("sheet 2 2\nfold l t\n", 16);
        wrong("sheet 2 2\nfold ltx\n", 17);
        wrong("sheet 2 2\nfold lt", 17);
        wrong("sheet 8 8\nfold lrltbtl\n", 21);
        wrong("sheet 8 8\nfold lrltb\n", 20);
        wrong("sheet 8 8\nfold lrlr\n", 18);
        wrong("sheet 2 2\nfold La\n", 15);
    }

    private static void pages(House x, String what, int[] due) {
        int rows = x.where(0, 2) == PaperHouse.NONE ? 0 : due.length / 2;
        CHECK.due(what + " has pages", rows > 0);
        for (int i = 0; i < due.length; i++) {
            boolean across = x.page(0, 0, 0, 1) != PaperHouse.NONE;
            int panel = i / 2;
            CHECK.due(what + " " + i, x.page(0, i % 2, across ? 0 : panel, across ? panel : 0), due[i]);
        }
    }

    private static void atFirst() {
        House x = new House();
        pages(x, "at first", new int[] {1, 0, 2, 3});
        CHECK.due("page(1, 0, 0, 0)", x.page(1, 0, 0, 0), PaperHouse.NONE);
        CHECK.due("page(-1, 0, 0, 0)", x.page(-1, 0, 0, 0), PaperHouse.NONE);
        CHECK.due("page(0, 2, 0, 0)", x.page(0, 2, 0, 0), PaperHouse.NONE);
        CHECK.due("page(0, -1, 0, 0)", x.page(0, -1, 0, 0), PaperHouse.NONE);
        CHECK.due("page(0, 0, 1, 0)", x.page(0, 0, 1, 0), PaperHouse.NONE);
        CHECK.due("page(0, 0, -1, 0)", x.page(0, 0, -1, 0), PaperHouse.NONE);
        CHECK.due("page(0, 0, 0, 2)", x.page(0, 0, 0, 2), PaperHouse.NONE);
        CHECK.due("page(0, 0, 0, -1)", x.page(0, 0, 0, -1), PaperHouse.NONE);
        CHECK.due("where(-1, 0)", x.where(-1, 0), PaperHouse.NONE);
        CHECK.due("where(0, -1)", x.where(0, -1), PaperHouse.NONE);
        CHECK.due("where(0, 5)", x.where(0, 5), PaperHouse.NONE);
        CHECK.due("where(4, 4)", x.where(4, 4), PaperHouse.NONE);
        CHECK.due("creep at first", x.where(0, 4), 0);
        Check.fold(x, "sheet 1 4\nfold lr\n");
        CHECK.due("caliper at first", x.where(3, 4), 1);
    }

    private static void singleFolds() {
        House x = new House();
        CHECK.due("fold r", Check.fold(x, "sheet 1 2\nfold r\n"), 2);
        pages(x, "r", new int[] {2, 3, 1, 0});
        CHECK.due("fold t", Check.fold(x, "sheet 2 1\nfold t\n"), 2);
        pages(x, "t", new int[] {1001, 1000, 2, 3});
        CHECK.due("fold b", Check.fold(x, "sheet 2 1\nfold b\n"), 2);
        pages(x, "b", new int[] {2, 3, 1001, 1000});
        CHECK.due("no fold", Check.fold(x, "sheet 1 1\nfold \n"), 1);
        CHECK.due("front", x.page(0, 0, 0, 0), 0);
        CHECK.due("back", x.page(0, 1, 0, 0), 1);
        CHECK.due("fold ll", Check.fold(x, "sheet 1 4\nfold ll\n"), 4);
        pages(x, "ll", new int[] {5, 4, 2, 3, 1, 0, 6, 7});
        CHECK.due("fold tt", Check.fold(x, "sheet 4 1\nfold tt\n"), 4);
        pages(x, "tt", new int[] {1005, 1004, 2, 3, 1001, 1000, 6, 7});
    }

    private static void bookLimits() {
        House x = new House();
        CHECK.due("book(3, 1, 2)", x.book(3, 1, 2), 12);
        CHECK.due("book(0, 0, 1)", x.book(0, 0, 1), PaperHouse.NONE);
        CHECK.due("book(9, 0, 1)", x.book(9, 0, 1), PaperHouse.NONE);
        CHECK.due("book(1, 2, 1)", x.book(1, 2, 1), PaperHouse.NONE);
        CHECK.due("book(1, -1, 1)", x.book(1, -1, 1), PaperHouse.NONE);
        CHECK.due("book(1, 0, 0)", x.book(1, 0, 0), PaperHouse.NONE);
        CHECK.due("book(1, 0, 100)", x.book(1, 0, 100), PaperHouse.NONE);
        CHECK.due("the book stays", x.count(6), 3);
        CHECK.due("its way stays", x.where(4, 0), 2);
        CHECK.due("its caliper stays", x.where(4, 4), 4);
        CHECK.due("book(8, 0, 99)", x.book(8, 0, 99), 32);
        CHECK.due("count(6)", x.count(6), 8);
        CHECK.due("creep(14)", x.where(14, 4), 7 * 99);
        CHECK.due("creep(17)", x.where(17, 4), 7 * 99);
        CHECK.due("fold keeps the book", Check.fold(x, "sheet 8 8\nfold lrltbt\n"), 64);
        CHECK.due("sheets", x.count(6), 8);
        CHECK.due("last page", x.where(1023, 0), 7);
        CHECK.due("no page", x.where(1024, 0), PaperHouse.NONE);
    }

    /** A single LEAF is all behind: the first SHEET has the last PAGES. */
    private static void nestedOddLeaves() {
        House x = new House();
        Check.fold(x, "sheet 1 1\nfold \n");
        CHECK.due("book", x.book(3, 1, 1), 6);
        CHECK.due("sheet 0", x.page(0, 0, 0, 0), 4);
        CHECK.due("sheet 1", x.page(1, 1, 0, 0), 3);
        CHECK.due("sheet 2", x.page(2, 0, 0, 0), 0);
        CHECK.due("where(0, 0)", x.where(0, 0), 2);
        CHECK.due("where(5, 1)", x.where(5, 1), 1);
    }

    private static void wrongChangesNothing() {
        House x = new House();
        Check.fold(x, "sheet 2 1\nfold b\n");
        CHECK.due("wrong", Check.fold(x, "sheet 4 4\nfold ttrl\nx"), -1020);
        CHECK.due("leaves stay", x.count(5), 2);
        pages(x, "b stays", new int[] {2, 3, 1001, 1000});
    }

    private static void anyFolds() {
        Random random = new Random(3);
        for (int run = 0; run < 300; run++) {
            House x = new House();
            int rowFolds = random.nextInt(4);
            int columnFolds = random.nextInt(4);
            StringBuilder folds = new StringBuilder();
            int down = rowFolds;
            int across = columnFolds;
            while (down + across > 0) {
                if (random.nextInt(down + across) < down) {
                    folds.append("tb".charAt(random.nextInt(2)));
                    down--;
                } else {
                    folds.append("lr".charAt(random.nextInt(2)));
                    across--;
                }
            }
            compare(x, 1 << rowFolds, 1 << columnFolds, folds.toString(), random);
        }
    }

    /** Follows each PANEL by its place and its height above the table while the sheet is folded. */
    private static void compare(House x, int rows, int columns, String folds, Random random) {
        int leaves = rows * columns;
        String text = "sheet " + rows + " " + columns + "\nfold " + folds + "\n";
        CHECK.due(text, Check.fold(x, text), leaves);
        int sheets = 1 + random.nextInt(8);
        int way = random.nextInt(2);
        int caliper = 1 + random.nextInt(99);
        CHECK.due("book", x.book(sheets, way, caliper), sheets * leaves * 2);
        boolean[] seen = new boolean[sheets * leaves * 2];
        for (int panel = 0; panel < leaves; panel++) {
            int[] end = follow(panel / columns, panel % columns, rows, columns, folds);
            int leaf = leaves - 1 - end[0];
            for (int s = 0; s < sheets; s++) {
                int place = s * leaves + leaf;
                if (way == 1) {
                    int half = leaves / 2;
                    place = leaf < half ? s * half + leaf
                            : sheets * leaves - (s + 1) * (leaves - half) + (leaf - half);
                }
                for (int side = 0; side < 2; side++) {
                    boolean upper = (side == 0) == (end[1] % 2 == 0);
                    int page = place * 2 + (upper ? 0 : 1);
                    seen[page] = true;
                    String name = text + s + " " + side + " " + panel;
                    CHECK.due(name, x.page(s, side, panel / columns, panel % columns),
                            page + (end[2] % 2 == 1 ? 1000 : 0));
                    CHECK.due(name + " sheet", x.where(page, 0), s);
                    CHECK.due(name + " side", x.where(page, 1), side);
                    CHECK.due(name + " row", x.where(page, 2), panel / columns);
                    CHECK.due(name + " column", x.where(page, 3), panel % columns);
                    CHECK.due(name + " creep", x.where(page, 4),
                            caliper * Math.min(place, sheets * leaves - 1 - place));
                }
            }
        }
        for (boolean one : seen) {
            CHECK.due("each page once", one);
        }
    }

    /** Height above the table at the end, times turned, times turned by t or b. */
    private static int[] follow(int row, int column, int rows, int columns, String folds) {
        int y = row;
        int x = column;
        int high = rows;
        int wide = columns;
        int z = 0;
        int height = 1;
        int turned = 0;
        int tumbled = 0;
        for (char f : folds.toCharArray()) {
            boolean across = f == 'l' || f == 'r';
            boolean inFirstHalf = across ? x < wide / 2 : y < high / 2;
            boolean moves = inFirstHalf == (f == 'l' || f == 't');
            if (moves) {
                z = 2 * height - 1 - z;
                turned++;
                if (across) {
                    x = wide - 1 - x;
                } else {
                    y = high - 1 - y;
                    tumbled++;
                }
            }
            height *= 2;
            if (across) {
                wide /= 2;
                x -= f == 'l' ? wide : 0;
            } else {
                high /= 2;
                y -= f == 't' ? high : 0;
            }
        }
        return new int[] {z, turned, tumbled};
    }
}
