/** The boundary cases of Part VII and of promises 26 to 29, sentence by sentence. */
public final class PilesBoundsTest {
    private static final Check CHECK = new Check();
    private static final int MIN = Integer.MIN_VALUE;
    private static final int MAX = Integer.MAX_VALUE;

    public static void main(String[] args) {
        words();
        pileBounds();
        noLinesAtAll();
        upToThirtyLines();
        pieceNumbers();
        farFromTheEdge();
        piecesOfOne();
        rangesOfBothParts();
        blanksAndLineEnds();
        whichPartKeepsItsNumber();
        pieceBounds();
        onEdges();
        onBounds();
        wrongTextsChangeNothing();
        aNewPileTakesTheOldOnesPlace();
        marks();
        oneToTwentyMarks();
        copyBlanksAndLineEnds();
        rightCopies();
        missingMarks();
        marksTooMany();
        firstPlaceThatIsNotRight();
        CHECK.finish();
    }

    private static int pile(House x, String text) {
        return Check.pile(x, 100, 50, text);
    }

    private static void words() {
        CHECK.word(PilesBoundsTest::pile, "", "x", " 0 1\n");
        CHECK.word(PilesBoundsTest::pile, "", "y", " 0 1\n");
        CHECK.word(PilesBoundsTest::pile, "x 0 9\n", "x", " 1 1\n");
        CHECK.word(PilesBoundsTest::pile, "x 0 9\n", "y", " 1 1\n");
        CHECK.wrong(PilesBoundsTest::pile, "xy 0 1\n", 0);
        CHECK.wrong(PilesBoundsTest::pile, "z 0 1\n", 0);
        CHECK.wrong(PilesBoundsTest::pile, "w 0 1\n", 0);
    }

    /** "W by H (1 .. 999 each)"; "NONE if W or H can't be", ahead of WRONG, and the tape stays. */
    private static void pileBounds() {
        House x = new House();
        for (int size : new int[] {0, -1, 1000, 1001, MIN, MAX}) {
            Check.tape(x, "?");
            CHECK.none("pile(" + size + ", 1)", x.pile(size, 1));
            CHECK.none("pile(1, " + size + ")", x.pile(1, size));
            CHECK.none("pile(999, " + size + ")", x.pile(999, size));
            CHECK.none("pile(" + size + ", 999)", x.pile(size, 999));
            CHECK.none("pile(" + size + ", " + size + ")", x.pile(size, size));
            CHECK.due("the tape stays", x.end(1), 1);
            CHECK.due("no PILE", x.count(10), 0);
        }
        x.end(0);
        for (int w : new int[] {1, 2, 998, 999}) {
            for (int h : new int[] {1, 2, 998, 999}) {
                CHECK.due("pile(" + w + ", " + h + ")", x.pile(w, h), 1);
                CHECK.due("width", x.piece(0, 2), w);
                CHECK.due("height", x.piece(0, 3), h);
            }
        }
        CHECK.none("pile(0, 5)", x.pile(0, 5));
        CHECK.none("pile(5, 1000)", x.pile(5, 1000));
        CHECK.due("it stays", x.piece(0, 2), 999);
    }

    /** "At first one PIECE, 0, at 0, 0"; "lines, 0 to 30". */
    private static void noLinesAtAll() {
        House x = new House();
        CHECK.due("pile", x.pile(7, 9), 1);
        piece(x, 0, 0, 0, 7, 9);
        CHECK.none("no other", x.piece(1, 0));
        CHECK.wrong(PilesBoundsTest::pile, "\n", 0);
        CHECK.wrong(PilesBoundsTest::pile, " ", 0);
    }

    private static void piece(House x, int k, int left, int top, int wide, int high) {
        int[] due = {left, top, wide, high};
        for (int what = 0; what < 4; what++) {
            CHECK.due("piece(" + k + ", " + what + ")", x.piece(k, what), due[what]);
        }
    }

    private static String cuts(int many) {
        StringBuilder text = new StringBuilder();
        for (int i = 0; i < many; i++) {
            text.append("x ").append(i).append(" 1\n");
        }
        return text.toString();
    }

    /** "Lines, 0 to 30"; "a line too many at its first byte". */
    private static void upToThirtyLines() {
        for (int many : new int[] {0, 1, 2, 29, 30}) {
            House x = new House();
            CHECK.due(many + " cuts", Check.pile(x, 31, 1, cuts(many)), many + 1);
            CHECK.due("pieces", x.count(10), many + 1);
            piece(x, many, many, 0, 31 - many, 1);
            CHECK.due("the newest is there", x.on(30, 0), many);
            CHECK.due("its left edge", x.on(many, 0), many);
            CHECK.none("none behind", x.piece(many + 1, 0));
        }
        String thirty = cuts(30);
        for (String more : new String[] {"x 30 1\n", "x 0 1\n", "y 0 1\n", "x 31 1\n", "x", "z", "\n", " ", "?", "0"}) {
            CHECK.wrong(PilesBoundsTest::pile, thirty + more, thirty.length());
        }
        String last = cuts(29);
        CHECK.wrong(PilesBoundsTest::pile, last + "\n", last.length());
        CHECK.wrong(PilesBoundsTest::pile, last + "x 30 1\n", last.length() + 2);
        CHECK.right(PilesBoundsTest::pile, last + "x 29 1\n");
    }

    /** "A PIECE that there is not: WRONG at its number." */
    private static void pieceNumbers() {
        CHECK.numbers(PilesBoundsTest::pile, "x ", 0, 0, " 1\n");
        CHECK.numbers(PilesBoundsTest::pile, "x 0 50\ny ", 0, 1, " 1\n");
        CHECK.numbers(PilesBoundsTest::pile, "x 0 50\ny 0 25\nx ", 0, 2, " 1\n");
        String pieces = "x 0 90\n";
        for (int i = 1; i < 10; i++) {
            pieces += "x 0 " + (90 - i) + "\n";
        }
        CHECK.numbers(PilesBoundsTest::pile, pieces + "y ", 0, 10, " 1\n");
    }

    /** "Less than it is wide (high) and above 0 (else WRONG at this NUMBER)." */
    private static void farFromTheEdge() {
        CHECK.numbers(PilesBoundsTest::pile, "x 0 ", 1, 99, "\n");
        CHECK.numbers(PilesBoundsTest::pile, "y 0 ", 1, 49, "\n");
        CHECK.numbers((x, text) -> Check.pile(x, 999, 2, text), "x 0 ", 1, 998, "\n");
        CHECK.numbers((x, text) -> Check.pile(x, 999, 2, text), "y 0 ", 1, 1, "\n");
        CHECK.numbers((x, text) -> Check.pile(x, 2, 999, text), "x 0 ", 1, 1, "\n");
        CHECK.numbers((x, text) -> Check.pile(x, 2, 999, text), "y 0 ", 1, 998, "\n");
    }

    /** A PIECE of width (height) 1 can't be cut there: any NUMBER is WRONG. */
    private static void piecesOfOne() {
        for (String number : new String[] {"0", "1", "2", "999", "999999"}) {
            CHECK.wrong((x, text) -> Check.pile(x, 1, 5, text), "x 0 " + number + "\n", 4);
            CHECK.wrong((x, text) -> Check.pile(x, 5, 1, text), "y 0 " + number + "\n", 4);
            CHECK.wrong((x, text) -> Check.pile(x, 1, 1, text), "x 0 " + number, 4);
        }
        CHECK.wrong((x, text) -> Check.pile(x, 1, 5, text), "x 0 ", 4);
        CHECK.wrong((x, text) -> Check.pile(x, 1, 5, text), "x 0", 3);
        CHECK.wrong((x, text) -> Check.pile(x, 1, 5, text), "x 0 01\n", 5);
        CHECK.right((x, text) -> Check.pile(x, 1, 5, text), "y 0 4\n");
        CHECK.right((x, text) -> Check.pile(x, 5, 1, text), "x 0 4\n");
    }

    /** Each part has its own range behind a cut; the other direction keeps its. */
    private static void rangesOfBothParts() {
        CHECK.numbers(PilesBoundsTest::pile, "x 0 30\nx 0 ", 1, 29, "\n");
        CHECK.numbers(PilesBoundsTest::pile, "x 0 30\nx 1 ", 1, 69, "\n");
        CHECK.numbers(PilesBoundsTest::pile, "x 0 30\ny 0 ", 1, 49, "\n");
        CHECK.numbers(PilesBoundsTest::pile, "x 0 30\ny 1 ", 1, 49, "\n");
        CHECK.numbers(PilesBoundsTest::pile, "y 0 20\ny 0 ", 1, 19, "\n");
        CHECK.numbers(PilesBoundsTest::pile, "y 0 20\ny 1 ", 1, 29, "\n");
        CHECK.numbers(PilesBoundsTest::pile, "y 0 20\nx 0 ", 1, 99, "\n");
        CHECK.numbers(PilesBoundsTest::pile, "y 0 20\nx 1 ", 1, 99, "\n");
    }

    private static void blanksAndLineEnds() {
        CHECK.wrong(PilesBoundsTest::pile, "x\n", 1);
        CHECK.wrong(PilesBoundsTest::pile, "x  0 1\n", 2);
        CHECK.wrong(PilesBoundsTest::pile, "x 0\n", 3);
        CHECK.wrong(PilesBoundsTest::pile, "x 0  1\n", 4);
        CHECK.wrong(PilesBoundsTest::pile, "x 0 1 \n", 5);
        CHECK.wrong(PilesBoundsTest::pile, "x 0 1 1\n", 5);
        CHECK.wrong(PilesBoundsTest::pile, "x 0 1", 5);
        CHECK.wrong(PilesBoundsTest::pile, "x 0 1\n\n", 6);
        CHECK.wrong(PilesBoundsTest::pile, "x 0 1\n ", 6);
        CHECK.wrong(PilesBoundsTest::pile, " x 0 1\n", 0);
    }

    /** "The left (upper) part keeps its number, the other one is a new PIECE, of the next number." */
    private static void whichPartKeepsItsNumber() {
        House x = new House();
        CHECK.due("x", pile(x, "x 0 1\n"), 2);
        piece(x, 0, 0, 0, 1, 50);
        piece(x, 1, 1, 0, 99, 50);
        CHECK.due("x", pile(x, "x 0 99\n"), 2);
        piece(x, 0, 0, 0, 99, 50);
        piece(x, 1, 99, 0, 1, 50);
        CHECK.due("y", pile(x, "y 0 1\n"), 2);
        piece(x, 0, 0, 0, 100, 1);
        piece(x, 1, 0, 1, 100, 49);
        CHECK.due("y", pile(x, "y 0 49\n"), 2);
        piece(x, 0, 0, 0, 100, 49);
        piece(x, 1, 0, 49, 100, 1);
        CHECK.due("an older PIECE is cut", pile(x, "x 0 40\ny 0 10\nx 0 20\ny 1 30\n"), 5);
        piece(x, 0, 0, 0, 20, 10);
        piece(x, 1, 40, 0, 60, 30);
        piece(x, 2, 0, 10, 40, 40);
        piece(x, 3, 20, 0, 20, 10);
        piece(x, 4, 40, 30, 60, 20);
    }

    /** "Of a PIECE, what 0: x, 1: y, 2: width, 3: height. NONE if there is none such." */
    private static void pieceBounds() {
        House x = new House();
        for (int what = -1; what <= 4; what++) {
            CHECK.none("no PILE: piece(0, " + what + ")", x.piece(0, what));
        }
        pile(x, "x 0 30\ny 1 20\n");
        for (int what = 0; what < 4; what++) {
            CHECK.due("the last", x.piece(2, what), new int[] {30, 20, 70, 30}[what]);
            for (int k : new int[] {-1, 3, 4, 30, 31, 32, MIN, MAX}) {
                CHECK.none("piece(" + k + ", " + what + ")", x.piece(k, what));
            }
        }
        for (int what : new int[] {-1, 4, 5, MIN, MAX}) {
            CHECK.none("piece(0, " + what + ")", x.piece(0, what));
            CHECK.none("piece(2, " + what + ")", x.piece(2, what));
        }
    }

    /** "(Its left and upper edges are its own)": of each PIECE, around all four edges. */
    private static void onEdges() {
        House x = new House();
        pile(x, "x 0 40\ny 0 10\ny 1 30\nx 2 15\n");
        CHECK.due("pieces", x.count(10), 5);
        for (int k = 0; k < 5; k++) {
            int left = x.piece(k, 0);
            int top = x.piece(k, 1);
            int right = left + x.piece(k, 2);
            int bottom = top + x.piece(k, 3);
            CHECK.due("its first point", x.on(left, top), k);
            CHECK.due("its last point", x.on(right - 1, bottom - 1), k);
            CHECK.due("its upper right", x.on(right - 1, top), k);
            CHECK.due("its lower left", x.on(left, bottom - 1), k);
            CHECK.due("not left of it", x.on(left - 1, top) != k);
            CHECK.due("not above it", x.on(left, top - 1) != k);
            CHECK.due("not its right edge", x.on(right, top) != k);
            CHECK.due("not its lower edge", x.on(left, bottom) != k);
        }
    }

    private static void onBounds() {
        House x = new House();
        CHECK.none("no PILE", x.on(0, 0));
        for (int[] size : new int[][] {{1, 1}, {100, 50}, {999, 999}}) {
            x.pile(size[0], size[1]);
            CHECK.due("the first", x.on(0, 0), 0);
            CHECK.due("the last", x.on(size[0] - 1, size[1] - 1), 0);
            for (int at : new int[] {-1, size[0], size[0] + 1, MIN, MAX}) {
                CHECK.none("on(" + at + ", 0)", x.on(at, 0));
                CHECK.none("on(" + at + ", last)", x.on(at, size[1] - 1));
            }
            for (int y : new int[] {-1, size[1], size[1] + 1, MIN, MAX}) {
                CHECK.none("on(0, " + y + ")", x.on(0, y));
                CHECK.none("on(last, " + y + ")", x.on(size[0] - 1, y));
            }
        }
    }

    /** "WRONG texts change nothing": neither the PILE's size nor its PIECES. */
    private static void wrongTextsChangeNothing() {
        String right = "x 0 2\ny 0 1\nx 1 1\n";
        for (int length = 0; length <= right.length(); length++) {
            House x = new House();
            CHECK.due("wrong without a PILE", Check.pile(x, 9, 9, right.substring(0, length) + "?") <= -1000);
            CHECK.due("no PILE", x.count(10), 0);
            CHECK.none("no PIECE", x.piece(0, 2));
            CHECK.none("nothing there", x.on(0, 0));
            pile(x, "y 0 20\n");
            CHECK.due("wrong", Check.pile(x, 9, 9, right.substring(0, length) + "?") <= -1000);
            CHECK.due("pieces", x.count(10), 2);
            piece(x, 0, 0, 0, 100, 20);
            piece(x, 1, 0, 20, 100, 30);
            CHECK.due("on", x.on(99, 49), 1);
        }
    }

    private static void aNewPileTakesTheOldOnesPlace() {
        House x = new House();
        CHECK.due("31", pile(x, cuts(30)), 31);
        CHECK.due("2", Check.pile(x, 5, 6, "y 0 2\n"), 2);
        piece(x, 0, 0, 0, 5, 2);
        piece(x, 1, 0, 2, 5, 4);
        CHECK.none("piece(2, 0)", x.piece(2, 0));
        CHECK.none("on(50, 3)", x.on(50, 3));
        CHECK.due("1", x.pile(3, 3), 1);
        CHECK.due("count", x.count(10), 1);
        CHECK.none("piece(1, 0)", x.piece(1, 0));
        for (int at = -1; at <= 100; at++) {
            CHECK.due("on(" + at + ", 2)", x.on(at, 2), at >= 0 && at < 3 ? 0 : PaperHouse.NONE);
        }
        House z = new House();
        pile(z, "x 0 1\n");
        pile(z, "y 0 1\n");
        for (int round = 0; round < 2; round++) {
            CHECK.due("one PIECE", z.pile(2, 2), 1);
            CHECK.none("none of an older PILE to the right", z.on(50, 1));
            CHECK.none("none of an older PILE below", z.on(1, 30));
        }
        for (int y = -1; y <= 50; y++) {
            CHECK.due("on(2, " + y + ")", x.on(2, y), y >= 0 && y < 3 ? 0 : PaperHouse.NONE);
        }
    }

    /** "NUMBERS 1 .. 8." */
    private static void marks() {
        CHECK.numbers(Check::gather, "", 1, 8, "\n");
        CHECK.numbers(Check::gather, "1 2 ", 1, 8, "\n");
        CHECK.numbers(Check::gather, "1 ", 1, 8, " 1\n");
    }

    /** "1 to 20 NUMBERS"; "the blank ahead .. of a 21st mark is WRONG". */
    private static void oneToTwentyMarks() {
        CHECK.wrong(Check::gather, "", 0);
        CHECK.wrong(Check::gather, "\n", 0);
        String text = "1";
        for (int many = 1; many <= 20; many++) {
            CHECK.right(Check::gather, text + "\n");
            CHECK.wrong(Check::gather, text, text.length());
            if (many < 20) {
                CHECK.wrong(Check::gather, text + " ", text.length() + 1);
                CHECK.wrong(Check::gather, text + " \n", text.length() + 1);
                text += " 8";
            }
        }
        for (String more : new String[] {" ", " 1", " 1\n", " 9\n", " \n", "?"}) {
            CHECK.wrong(Check::gather, text + more, text.length());
        }
    }

    private static void copyBlanksAndLineEnds() {
        CHECK.wrong(Check::gather, " 1\n", 0);
        CHECK.wrong(Check::gather, "1  2\n", 2);
        CHECK.wrong(Check::gather, "1,2\n", 1);
        CHECK.wrong(Check::gather, "1\n\n", 2);
        CHECK.wrong(Check::gather, "1\n2\n", 2);
        CHECK.wrong(Check::gather, "1 2\n ", 4);
        CHECK.wrong(Check::gather, "a\n", 0);
    }

    private static String copy(int sheets) {
        StringBuilder text = new StringBuilder("1");
        for (int s = 2; s <= sheets; s++) {
            text.append(' ').append(s);
        }
        return text + "\n";
    }

    /** "RIGHT is a copy with 1, 2, .. S", in both ways of binding. */
    private static void rightCopies() {
        for (int sheets = 1; sheets <= 8; sheets++) {
            for (int way = 0; way < 2; way++) {
                House x = new House();
                x.book(sheets, way, 1);
                for (int many = 1; many <= 8; many++) {
                    int due = many == sheets ? 0 : Math.min(many, sheets) + 1;
                    CHECK.due(many + " of " + sheets, Check.gather(x, copy(many)), due);
                }
            }
        }
        CHECK.due("of a new object's one SHEET", Check.gather(new House(), "1\n"), 0);
    }

    /** "One behind its marks, if some are missing." */
    private static void missingMarks() {
        House x = new House();
        x.book(8, 0, 1);
        for (int many = 1; many < 8; many++) {
            CHECK.due(many + " of 8", Check.gather(x, copy(many)), many + 1);
        }
        CHECK.due("a wrong one goes ahead of missing ones", Check.gather(x, "1 3\n"), 2);
        CHECK.due("the last one missing", Check.gather(x, "1 2 3 4 5 6 7\n"), 8);
    }

    /** "The first one too many", also if it goes on rightly. */
    private static void marksTooMany() {
        House x = new House();
        CHECK.due("two of one", Check.gather(x, "1 2\n"), 2);
        CHECK.due("twenty of one", Check.gather(x, "1" + " 1".repeat(19) + "\n"), 2);
        x.book(8, 0, 1);
        CHECK.due("nine", Check.gather(x, "1 2 3 4 5 6 7 8 1\n"), 9);
        CHECK.due("twenty", Check.gather(x, "1 2 3 4 5 6 7 8" + " 8".repeat(12) + "\n"), 9);
        CHECK.due("a wrong one goes ahead of those too many",
                Check.gather(x, "1 2 3 4 5 6 8 7" + " 8".repeat(12) + "\n"), 7);
    }

    private static void firstPlaceThatIsNotRight() {
        for (int place = 1; place <= 8; place++) {
            House x = new House();
            x.book(8, 1, 9);
            for (int mark = 1; mark <= 8; mark++) {
                String[] marks = copy(8).trim().split(" ");
                marks[place - 1] = "" + mark;
                CHECK.due(mark + " at " + place, Check.gather(x, String.join(" ", marks) + "\n"),
                        mark == place ? 0 : place);
            }
        }
    }
}
