/** The boundary cases of Part II and of promises 4 and 5, sentence by sentence. */
public final class RollsBoundsTest {
    private static final Check CHECK = new Check();

    public static void main(String[] args) {
        words();
        rollWidth();
        knives();
        widths();
        wanted();
        sixteenInAll();
        oneToFourLines();
        eachWidthOnce();
        blanksAndLineEnds();
        atMostKnivesPieces();
        atMostTheRollsWidth();
        justThoseWanted();
        fewestAheadOfGreatest();
        greatestOfThoseWithAsMany();
        mostPatterns();
        patternBounds();
        lost();
        wrongTextsChangeNothing();
        aNewPlanTakesTheOldOnesPlace();
        withoutAPlan();
        CHECK.finish();
    }

    private static void words() {
        CHECK.wrong(Check::cut, "", 0);
        CHECK.word(Check::cut, "", "roll", " 100 5\ncut 10 1\n");
        CHECK.word(Check::cut, "roll 100 5\n", "cut", " 10 1\n");
        CHECK.word(Check::cut, "roll 100 5\ncut 20 1\n", "cut", " 10 1\n");
        CHECK.wrong(Check::cut, "cut 100 5\ncut 10 1\n", 0);
        CHECK.wrong(Check::cut, "roll 100 5\nroll 10 1\n", 11);
        CHECK.wrong(Check::cut, "roll 100 5\ncut 20 1\nroll 10 1\n", 20);
    }

    /** "A NUMBER 50 .. 400 (the ROLL's width)." */
    private static void rollWidth() {
        CHECK.numbers(Check::cut, "roll ", 50, 400, " 1\ncut 50 1\n");
    }

    /** "A NUMBER 1 .. 6 (KNIVES)." */
    private static void knives() {
        CHECK.numbers(Check::cut, "roll 100 ", 1, 6, "\ncut 10 1\n");
    }

    /** "A NUMBER 10 .. that width": the ROLL's, whatever it is. */
    private static void widths() {
        CHECK.numbers(Check::cut, "roll 50 1\ncut ", 10, 50, " 1\n");
        CHECK.numbers(Check::cut, "roll 51 1\ncut ", 10, 51, " 1\n");
        CHECK.numbers(Check::cut, "roll 400 1\ncut ", 10, 400, " 1\n");
        CHECK.numbers(Check::cut, "roll 99 6\ncut 30 1\ncut 31 1\ncut 32 1\ncut ", 10, 99, " 1\n");
    }

    /** "A NUMBER 1 .. 9 (how many are wanted)." */
    private static void wanted() {
        CHECK.numbers(Check::cut, "roll 100 6\ncut 10 ", 1, 9, "\n");
        CHECK.numbers(Check::cut, "roll 100 6\ncut 10 7\ncut 20 ", 1, 9, "\n");
    }

    /** "16 at most in all: the line that passes it is WRONG at this NUMBER." */
    private static void sixteenInAll() {
        CHECK.numbers(Check::cut, "roll 100 6\ncut 10 8\ncut 20 ", 1, 8, "\n");
        CHECK.numbers(Check::cut, "roll 100 6\ncut 10 9\ncut 20 ", 1, 7, "\n");
        CHECK.numbers(Check::cut, "roll 100 6\ncut 10 9\ncut 20 6\ncut 30 ", 1, 1, "\n");
        CHECK.numbers(Check::cut, "roll 100 6\ncut 10 4\ncut 20 4\ncut 30 4\ncut 40 ", 1, 4, "\n");
        String sixteen = "roll 100 6\ncut 10 9\ncut 20 7\n";
        CHECK.right(Check::cut, sixteen);
        for (int n = 0; n <= 10; n++) {
            CHECK.wrong(Check::cut, sixteen + "cut 30 " + n + "\n", sixteen.length() + 7);
        }
        CHECK.wrong(Check::cut, sixteen + "cut 30 1", sixteen.length() + 7);
        CHECK.wrong(Check::cut, sixteen + "cut 30", sixteen.length() + 6);
        CHECK.wrong(Check::cut, sixteen + "cut 20 1\n", sixteen.length() + 4);
        String four = "roll 100 6\ncut 10 9\ncut 20 5\ncut 30 1\ncut 40 ";
        CHECK.numbers(Check::cut, four, 1, 1, "\n");
    }

    /** "Then 1 to 4 lines"; "a line too many at its first byte". */
    private static void oneToFourLines() {
        String text = "roll 100 5\n";
        CHECK.wrong(Check::cut, text, text.length());
        for (int line = 1; line <= 4; line++) {
            text += "cut " + (10 + line) + " 1\n";
            CHECK.right(Check::cut, text);
        }
        for (String fifth : new String[] {"cut 15 1\n", "cut 11 1\n", "cut 9 1\n", "cut", "\n", " ", "x", "1", "?"}) {
            CHECK.wrong(Check::cut, text + fifth, text.length());
        }
    }

    /** "(a WIDTH, each once)"; "a WIDTH told twice at its first byte". */
    private static void eachWidthOnce() {
        String text = "roll 100 5\ncut 20 1\ncut 30 1\ncut 40 1\n";
        for (int width = 10; width <= 100; width++) {
            String line = "cut " + width;
            if (width == 20 || width == 30 || width == 40) {
                CHECK.wrong(Check::cut, text + line + " 1\n", text.length() + 4);
                CHECK.wrong(Check::cut, text + line, text.length() + 4);
                CHECK.wrong(Check::cut, text + line + "?", text.length() + 4);
                CHECK.wrong(Check::cut, text + line + " 0\n", text.length() + 4);
            } else {
                CHECK.right(Check::cut, text + line + " 1\n");
            }
        }
        CHECK.wrong(Check::cut, "roll 100 5\ncut 20 1\ncut 20 1\n", 24);
        House x = new House();
        CHECK.due("a text of its own", Check.cut(x, "roll 100 5\ncut 20 1\n"), 1);
        CHECK.due("may tell the WIDTH again", Check.cut(x, "roll 100 5\ncut 30 1\ncut 20 1\n"), 1);
    }

    private static void blanksAndLineEnds() {
        CHECK.wrong(Check::cut, "roll\n", 4);
        CHECK.wrong(Check::cut, "roll  100 5\n", 5);
        CHECK.wrong(Check::cut, "roll 100\n", 8);
        CHECK.wrong(Check::cut, "roll 100  5\n", 9);
        CHECK.wrong(Check::cut, "roll 100 5 \n", 10);
        CHECK.wrong(Check::cut, "roll 100 5\n\n", 11);
        CHECK.wrong(Check::cut, "roll 100 5\n cut 10 1\n", 11);
        CHECK.wrong(Check::cut, "roll 100 5\ncut  10 1\n", 15);
        CHECK.wrong(Check::cut, "roll 100 5\ncut 10\n", 17);
        CHECK.wrong(Check::cut, "roll 100 5\ncut 10  1\n", 18);
        CHECK.wrong(Check::cut, "roll 100 5\ncut 10 1 \n", 19);
        CHECK.wrong(Check::cut, "roll 100 5\ncut 10 1\n\n", 20);
        CHECK.wrong(Check::cut, "roll 100 5\ncut 10 1\n ", 20);
        CHECK.wrong(Check::cut, "roll 100 5\r\ncut 10 1\n", 10);
    }

    /** "At most KNIVES in all and one at least": pieces of one WIDTH, and of several. */
    private static void atMostKnivesPieces() {
        for (int knives = 1; knives <= 6; knives++) {
            for (int wanted = 1; wanted <= 9; wanted++) {
                House x = new House();
                int rolls = (wanted + knives - 1) / knives;
                CHECK.due(wanted + " with " + knives + " knives",
                        Check.cut(x, "roll 400 " + knives + "\ncut 10 " + wanted + "\n"), rolls);
                for (int i = 0; i < rolls; i++) {
                    CHECK.due("pattern " + i, x.pattern(i, 0), Math.min(knives, wanted - i * knives));
                }
            }
            House x = new House();
            CHECK.due("four WIDTHS, " + knives + " knives",
                    Check.cut(x, "roll 400 " + knives + "\ncut 10 4\ncut 11 4\ncut 12 4\ncut 13 4\n"),
                    (16 + knives - 1) / knives);
        }
    }

    /** "As wide as the ROLL together at most." */
    private static void atMostTheRollsWidth() {
        House x = new House();
        CHECK.due("50 and 50 of 100", Check.cut(x, "roll 100 6\ncut 50 2\n"), 1);
        CHECK.due("nothing is lost", x.pattern(0, -1), 0);
        CHECK.due("50 and 50 of 99", Check.cut(x, "roll 99 6\ncut 50 2\n"), 2);
        CHECK.due("49 is lost", x.pattern(0, -1), 49);
        CHECK.due("51 and 51 of 101", Check.cut(x, "roll 101 6\ncut 51 2\n"), 2);
        CHECK.due("51 and 51 of 102", Check.cut(x, "roll 102 6\ncut 51 2\n"), 1);
        CHECK.due("the whole width", Check.cut(x, "roll 400 6\ncut 400 9\n"), 9);
        CHECK.due("nothing is lost", x.count(4), 0);
        CHECK.due("three WIDTHS just fit", Check.cut(x, "roll 60 6\ncut 10 1\ncut 20 1\ncut 30 1\n"), 1);
        CHECK.due("three WIDTHS, one too wide", Check.cut(x, "roll 60 6\ncut 10 1\ncut 20 1\ncut 31 1\n"), 2);
        CHECK.due("six just fit", Check.cut(x, "roll 60 6\ncut 10 6\n"), 1);
        CHECK.due("six of 59 do not", Check.cut(x, "roll 59 6\ncut 10 6\n"), 2);
    }

    /** "A PLAN is PATTERNS whose pieces are together just those wanted": no piece more to fill a ROLL. */
    private static void justThoseWanted() {
        House x = new House();
        CHECK.due("five", Check.cut(x, "roll 100 3\ncut 30 5\n"), 2);
        CHECK.due("three", x.pattern(0, 0), 3);
        CHECK.due("two, though three go", x.pattern(1, 0), 2);
        CHECK.due("lost", x.pattern(1, -1), 40);
    }

    /** The greatest PATTERN first (two of 40) would need three ROLLS: the fewest go ahead. */
    private static void fewestAheadOfGreatest() {
        House x = new House();
        CHECK.due("two rolls", Check.cut(x, "roll 100 6\ncut 40 2\ncut 60 2\n"), 2);
        for (int i = 0; i < 2; i++) {
            CHECK.due("one of 40 each", x.pattern(i, 0), 1);
            CHECK.due("one of 60 each", x.pattern(i, 1), 1);
        }
    }

    /** "By the first WIDTH's number, then the second's, .. at the first place where they differ." */
    private static void greatestOfThoseWithAsMany() {
        House x = new House();
        CHECK.due("10 ahead of 11", Check.cut(x, "roll 100 2\ncut 10 2\ncut 11 2\n"), 2);
        rows(x, new int[][] {{2, 0}, {0, 2}});
        CHECK.due("11 ahead of 10: the text's order", Check.cut(x, "roll 100 2\ncut 11 3\ncut 10 1\n"), 2);
        rows(x, new int[][] {{2, 0}, {1, 1}});
        CHECK.due("the second WIDTH decides", Check.cut(x, "roll 100 3\ncut 10 1\ncut 20 2\ncut 30 3\n"), 2);
        rows(x, new int[][] {{1, 2, 0}, {0, 0, 3}});
        CHECK.due("the second PATTERN decides", Check.cut(x, "roll 100 2\ncut 10 2\ncut 50 2\ncut 40 1\ncut 60 1\n"), 3);
        rows(x, new int[][] {{2, 0, 0, 0}, {0, 2, 0, 0}, {0, 0, 1, 1}});
    }

    private static void rows(House x, int[][] due) {
        CHECK.due("rolls", x.count(3), due.length);
        for (int i = 0; i < due.length; i++) {
            for (int k = 0; k < due[i].length; k++) {
                CHECK.due("pattern(" + i + ", " + k + ")", x.pattern(i, k), due[i][k]);
            }
        }
    }

    /** Sixteen PATTERNS, of which each has one piece. */
    private static void mostPatterns() {
        House x = new House();
        CHECK.due("sixteen", Check.cut(x, "roll 50 1\ncut 10 4\ncut 11 4\ncut 12 4\ncut 50 4\n"), 16);
        for (int i = 0; i < 16; i++) {
            for (int k = 0; k < 4; k++) {
                CHECK.due("pattern(" + i + ", " + k + ")", x.pattern(i, k), i / 4 == k ? 1 : 0);
            }
        }
        CHECK.due("lost of the last", x.pattern(15, -1), 0);
        CHECK.none("pattern(16, 0)", x.pattern(16, 0));
        CHECK.none("pattern(16, -1)", x.pattern(16, -1));
        CHECK.due("lost in all", x.count(4), 4 * (40 + 39 + 38));
    }

    /** "Both from 0 on; k NONE: what is lost of that ROLL. NONE if there is none such." */
    private static void patternBounds() {
        String text = "roll 100 1\n";
        for (int kinds = 1; kinds <= 4; kinds++) {
            text += "cut " + (10 * kinds) + " 1\n";
            House x = new House();
            CHECK.due("rolls", Check.cut(x, text), kinds);
            for (int i : new int[] {-1, kinds, 16, 64, Integer.MIN_VALUE, Integer.MAX_VALUE}) {
                CHECK.none("pattern(" + i + ", 0) of " + kinds, x.pattern(i, 0));
                CHECK.none("pattern(" + i + ", -1) of " + kinds, x.pattern(i, -1));
            }
            for (int k : new int[] {-2, kinds, kinds + 1, 4, 5, Integer.MIN_VALUE, Integer.MAX_VALUE}) {
                CHECK.none("pattern(0, " + k + ") of " + kinds, x.pattern(0, k));
                CHECK.none("pattern(last, " + k + ") of " + kinds, x.pattern(kinds - 1, k));
            }
            CHECK.due("the last WIDTH of the last", x.pattern(kinds - 1, kinds - 1), 1);
            CHECK.due("the last WIDTH of the first", x.pattern(0, kinds - 1), kinds == 1 ? 1 : 0);
            CHECK.due("lost of the first", x.pattern(0, -1), 90);
            CHECK.due("lost of the last", x.pattern(kinds - 1, -1), 100 - 10 * kinds);
        }
    }

    private static void lost() {
        House x = new House();
        CHECK.due("400 and 1 knife", Check.cut(x, "roll 400 1\ncut 10 9\ncut 11 7\n"), 16);
        CHECK.due("lost of all", x.count(4), 9 * 390 + 7 * 389);
        CHECK.due("one is lost", Check.cut(x, "roll 51 1\ncut 50 1\n"), 1);
        CHECK.due("one", x.pattern(0, -1), 1);
        CHECK.due("one in all", x.count(4), 1);
    }

    /** "WRONG texts change nothing", at whatever byte they end. */
    private static void wrongTextsChangeNothing() {
        String right = "roll 400 6\ncut 11 9\ncut 12 1\ncut 13 1\ncut 14 1\n";
        for (int length = 0; length <= right.length(); length++) {
            House x = new House();
            CHECK.due("two rolls", Check.cut(x, "roll 100 3\ncut 20 4\ncut 30 2\n"), 2);
            CHECK.due("wrong", Check.cut(x, right.substring(0, length) + "?") <= -1000);
            rows(x, new int[][] {{3, 0}, {1, 2}});
            CHECK.none("no third WIDTH", x.pattern(0, 2));
            CHECK.due("lost of the first", x.pattern(0, -1), 40);
            CHECK.due("lost of the second", x.pattern(1, -1), 20);
            CHECK.due("lost of all", x.count(4), 60);
        }
    }

    private static void aNewPlanTakesTheOldOnesPlace() {
        House x = new House();
        CHECK.due("sixteen", Check.cut(x, "roll 50 1\ncut 10 4\ncut 11 4\ncut 12 4\ncut 50 4\n"), 16);
        CHECK.due("one", Check.cut(x, "roll 60 2\ncut 20 1\n"), 1);
        CHECK.due("its piece", x.pattern(0, 0), 1);
        CHECK.none("no second PATTERN", x.pattern(1, 0));
        CHECK.none("no second WIDTH", x.pattern(0, 1));
        CHECK.due("lost", x.pattern(0, -1), 40);
        CHECK.due("lost of all", x.count(4), 40);
        CHECK.due("rolls", x.count(3), 1);
    }

    /** "Without a PLAN its counts are 0", also behind a text that was WRONG. */
    private static void withoutAPlan() {
        House x = new House();
        CHECK.due("wrong", Check.cut(x, "roll 100 3\ncut 20 4\n?"), -1020);
        CHECK.due("rolls", x.count(3), 0);
        CHECK.due("lost of all", x.count(4), 0);
        CHECK.none("pattern(0, 0)", x.pattern(0, 0));
        CHECK.none("pattern(0, -1)", x.pattern(0, -1));
        CHECK.none("pattern(-1, -1)", x.pattern(-1, -1));
    }
}
