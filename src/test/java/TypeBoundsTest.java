/** The boundary cases of Part VI and of promises 20 to 25, sentence by sentence. */
public final class TypeBoundsTest {
    private static final Check CHECK = new Check();
    private static final int MIN = Integer.MIN_VALUE;
    private static final int MAX = Integer.MAX_VALUE;

    public static void main(String[] args) {
        oneToTwelveWords();
        wordsOfOneToTwelveLetters();
        blanksAndLineEnds();
        sortsBounds();
        refusedSortsChangeNothing();
        leftBounds();
        sortsAndWidthsAtFirst();
        measureBounds();
        asLongAsTheyAreNotWider();
        wordsWiderThanTheMeasure();
        sortsRunOut();
        sortsInTheGalley();
        nothingIsSet();
        spreadByWholePartsAndOnes();
        linesThatStay();
        atMostSixteenLines();
        distributeBounds();
        thoseBehindMoveUp();
        moreThanNinetyNine();
        lineBounds();
        linesKeepWhatTheyWereSetTo();
        stripBounds();
        spacesOfTheStrip();
        wrongTextsChangeNothing();
        CHECK.finish();
    }

    private static int set(House x, String text) {
        return Check.set(x, 200, text);
    }

    /** "1 to 12 words"; "the blank ahead of a 13th word .. is WRONG". */
    private static void oneToTwelveWords() {
        CHECK.wrong(TypeBoundsTest::set, "", 0);
        CHECK.wrong(TypeBoundsTest::set, "\n", 0);
        String text = "a";
        for (int words = 1; words <= 12; words++) {
            CHECK.right(TypeBoundsTest::set, text + "\n");
            House x = new House();
            CHECK.due("one line", set(x, text + "\n"), 1);
            CHECK.due("words", x.line(0, 1), words);
            CHECK.wrong(TypeBoundsTest::set, text, text.length());
            if (words < 12) {
                CHECK.wrong(TypeBoundsTest::set, text + " ", text.length() + 1);
                CHECK.wrong(TypeBoundsTest::set, text + " \n", text.length() + 1);
                text += " b";
            }
        }
        for (String more : new String[] {" ", " b", " b\n", " \n", " ?"}) {
            CHECK.wrong(TypeBoundsTest::set, text + more, text.length());
        }
    }

    /** "(a word: letters a .. z, 1 to 12)"; "a word's thirteenth letter". */
    private static void wordsOfOneToTwelveLetters() {
        String twelve = "abcdefghijkl";
        for (String ahead : new String[] {"", "x ", "x y z ", twelve.substring(1) + " "}) {
            for (int length = 1; length <= 12; length++) {
                String word = ahead + twelve.substring(0, length);
                CHECK.right(TypeBoundsTest::set, word + "\n");
                CHECK.right(TypeBoundsTest::set, word + " x\n");
                CHECK.wrong(TypeBoundsTest::set, word, word.length());
                CHECK.wrong(TypeBoundsTest::set, word + "1\n", word.length());
                CHECK.wrong(TypeBoundsTest::set, word + "A\n", word.length());
            }
            for (String more : new String[] {"m", "m\n", "mn\n", "m x\n", "1", "?"}) {
                CHECK.wrong(TypeBoundsTest::set, ahead + twelve + more, ahead.length() + 12);
            }
        }
        CHECK.right(TypeBoundsTest::set, "z\n");
        CHECK.wrong(TypeBoundsTest::set, "{\n", 0);
        CHECK.wrong(TypeBoundsTest::set, "`\n", 0);
        CHECK.wrong(TypeBoundsTest::set, "1\n", 0);
    }

    private static void blanksAndLineEnds() {
        CHECK.wrong(TypeBoundsTest::set, " a\n", 0);
        CHECK.wrong(TypeBoundsTest::set, "a  b\n", 2);
        CHECK.wrong(TypeBoundsTest::set, "a \n", 2);
        for (String more : new String[] {"\n", "b\n", " ", "?", "a"}) {
            CHECK.wrong(TypeBoundsTest::set, "a\n" + more, 2);
            CHECK.wrong(TypeBoundsTest::set, "a b c d e f g h i j k l\n" + more, 24);
        }
    }

    /** "SORTS of a letter (1 .. 26) are so many" (0 .. 99), "of a WIDTH" (1 .. 20). */
    private static void sortsBounds() {
        House x = new House();
        for (int letter : new int[] {1, 2, 25, 26}) {
            for (int many : new int[] {0, 1, 98, 99}) {
                for (int width : new int[] {1, 2, 19, 20}) {
                    CHECK.due("sorts(" + letter + ", " + many + ", " + width + ")", x.sorts(letter, many, width), 1);
                }
                CHECK.due("left", x.left(letter), many);
            }
        }
        for (int letter : new int[] {0, -1, 27, MIN, MAX}) {
            CHECK.none("sorts(" + letter + ", 1, 1)", x.sorts(letter, 1, 1));
        }
        for (int many : new int[] {-1, 100, MIN, MAX}) {
            CHECK.none("sorts(1, " + many + ", 1)", x.sorts(1, many, 1));
            CHECK.none("sorts(26, " + many + ", 20)", x.sorts(26, many, 20));
        }
        for (int width : new int[] {0, -1, 21, MIN, MAX}) {
            CHECK.none("sorts(1, 1, " + width + ")", x.sorts(1, 1, width));
            CHECK.none("sorts(26, 99, " + width + ")", x.sorts(26, 99, width));
        }
    }

    private static void refusedSortsChangeNothing() {
        int[][] refused = {{1, -1, 7}, {1, 100, 7}, {1, 5, 0}, {1, 5, 21}, {0, 5, 7}, {27, 5, 7}};
        for (int[] sorts : refused) {
            House x = new House();
            x.sorts(1, 9, 3);
            CHECK.none("refused", x.sorts(sorts[0], sorts[1], sorts[2]));
            CHECK.due("nine stay", x.left(1), 9);
            CHECK.due("z's stay", x.left(26), 20);
            set(x, "a z\n");
            CHECK.due("of width 3", x.line(0, 0), 3 + 3 + 4);
        }
    }

    /** "A letter, 1 .. 26 .. NONE." */
    private static void leftBounds() {
        House x = new House();
        x.sorts(1, 7, 1);
        x.sorts(26, 8, 1);
        CHECK.due("left(1)", x.left(1), 7);
        CHECK.due("left(26)", x.left(26), 8);
        for (int letter : new int[] {0, -1, 27, 28, 97, MIN, MAX}) {
            CHECK.none("left(" + letter + ")", x.left(letter));
        }
    }

    /** "20 at first" and "of i l j 2, m w 5, others 4 at first": twenty of a letter go, a twenty-first does not. */
    private static void sortsAndWidthsAtFirst() {
        for (char c = 'a'; c <= 'z'; c++) {
            int wide = "ijl".indexOf(c) >= 0 ? 2 : "mw".indexOf(c) >= 0 ? 5 : 4;
            String ten = String.valueOf(c).repeat(10);
            House x = new House();
            CHECK.due("twenty-one of " + c, set(x, ten + " " + ten + " " + c + "\n"), 0);
            CHECK.due("none is taken", x.left(c - 'a' + 1), 20);
            CHECK.due("twenty of " + c, set(x, ten + " " + ten + "\n"), 1);
            CHECK.due("width of " + c, x.line(0, 0), 20 * wide + 3);
            CHECK.due("none is left", x.left(c - 'a' + 1), 0);
            CHECK.due("one more", set(x, c + "\n"), 0);
        }
    }

    /** "A MEASURE of 20 .. 200"; "NONE if there is no such MEASURE", and the tape stays. */
    private static void measureBounds() {
        House x = new House();
        for (int measure : new int[] {19, 0, -1, 201, 202, MIN, MAX}) {
            Check.tape(x, "a\n");
            CHECK.none("set(" + measure + ")", x.set(measure));
            CHECK.due("the tape stays", x.end(2), 2);
            Check.tape(x, "?");
            CHECK.none("NONE ahead of WRONG", x.set(measure));
        }
        CHECK.due("no line came", x.count(9), 0);
        CHECK.due("set(20)", Check.set(x, 20, "a\n"), 1);
        CHECK.due("set(21)", Check.set(x, 21, "a\n"), 1);
        CHECK.due("set(199)", Check.set(x, 199, "a\n"), 1);
        CHECK.due("set(200)", Check.set(x, 200, "a\n"), 1);
        CHECK.due("WRONG at 20", Check.set(x, 20, "?"), -1000);
        CHECK.due("WRONG at 200", Check.set(x, 200, "?"), -1000);
    }

    /** "Words go onto a line as long as they are not wider, with 3 for each space." */
    private static void asLongAsTheyAreNotWider() {
        House x = new House();
        CHECK.due("aa bb is 19: of 20", Check.set(x, 20, "aa bb\n"), 1);
        CHECK.due("aaa bb is 23: of 23", Check.set(x, 23, "aaa bb\n"), 1);
        CHECK.due("aaa bb is 23: of 22", Check.set(x, 22, "aaa bb\n"), 2);
        CHECK.due("a b c is 18: with d 25 of 25", Check.set(x, 25, "a b c d\n"), 1);
        CHECK.due("with d 25 of 24", Check.set(x, 24, "a b c d\n"), 2);
        CHECK.due("line 5 has one word", x.line(5, 1), 3);
        CHECK.due("the last one has one", x.line(6, 1), 1);
        House y = new House();
        y.sorts(1, 99, 20);
        String nine = "a a a a a a a a a";
        CHECK.due("nine of 20 are 204: of 200", Check.set(y, 200, nine + "\n"), 2);
        y.sorts(1, 99, 19);
        CHECK.due("nine of 19 are 195: of 195", Check.set(y, 195, nine + "\n"), 1);
        CHECK.due("of 194", Check.set(y, 194, nine + "\n"), 2);
        CHECK.due("a later line is filled likewise", Check.set(y, 41, "a a a a a\n"), 3);
        CHECK.due("of 40 each stands alone", Check.set(y, 40, "a a a a a\n"), 5);
    }

    /** "A word that is wider than the MEASURE alone .. can't be set." */
    private static void wordsWiderThanTheMeasure() {
        House x = new House();
        CHECK.due("20 of 20", Check.set(x, 20, "aaaaa\n"), 1);
        CHECK.due("21 of 20", Check.set(x, 20, "mbbbb\n"), 0);
        CHECK.due("21 of 21", Check.set(x, 21, "mbbbb\n"), 1);
        CHECK.due("the last word", Check.set(x, 20, "a b c dddddd\n"), 0);
        CHECK.due("the first word", Check.set(x, 20, "dddddd a b\n"), 0);
        CHECK.due("lines", x.count(9), 2);
        House y = new House();
        y.sorts(1, 99, 20);
        CHECK.due("200 of 200", Check.set(y, 200, "aaaaaaaaaa\n"), 1);
        CHECK.due("220 of 200", Check.set(y, 200, "aaaaaaaaaaa\n"), 0);
        CHECK.due("240 of 200", Check.set(y, 200, "aaaaaaaaaaaa\n"), 0);
        y.sorts(1, 99, 1);
        CHECK.due("12 of 20", Check.set(y, 20, "aaaaaaaaaaaa\n"), 1);
    }

    /** "SORTS run out by all letters of a text together." */
    private static void sortsRunOut() {
        for (int many = 0; many <= 5; many++) {
            House x = new House();
            x.sorts(1, many, 1);
            CHECK.due("four of " + many, Check.set(x, 20, "a ba aba\n"), many >= 4 ? 1 : 0);
            CHECK.due("left", x.left(1), many >= 4 ? many - 4 : many);
            CHECK.due("of b", x.left(2), many >= 4 ? 18 : 20);
        }
        House y = new House();
        y.sorts(26, 0, 1);
        CHECK.due("a last letter without SORTS", set(y, "abc defz\n"), 0);
        CHECK.due("left of a", y.left(1), 20);
        y.sorts(1, 99, 1);
        CHECK.due("99 of 99", set(y, "aaaaaaaaaaaa ".repeat(8) + "aaa\n"), 1);
        CHECK.due("none left", y.left(1), 0);
        CHECK.due("one more", set(y, "a\n"), 0);
    }

    /** "Those that lie in the GALLEY are beside the CASE": sorts() tells the CASE alone. */
    private static void sortsInTheGalley() {
        House x = new House();
        set(x, "aaa\n");
        CHECK.due("left", x.left(1), 17);
        CHECK.due("sorts", x.sorts(1, 2, 4), 1);
        CHECK.due("left", x.left(1), 2);
        CHECK.due("three of two", set(x, "aaa\n"), 0);
        CHECK.due("distribute", x.distribute(0), 0);
        CHECK.due("two and three", x.left(1), 5);
    }

    /** "Then nothing is set": no line, no letter. */
    private static void nothingIsSet() {
        House x = new House();
        set(x, "abc\n");
        x.sorts(4, 0, 4);
        CHECK.due("d runs out", set(x, "a b d\n"), 0);
        CHECK.due("too wide", Check.set(x, 20, "a b aaaaaa\n"), 0);
        CHECK.due("lines", x.count(9), 1);
        CHECK.due("left of a", x.left(1), 19);
        CHECK.due("left of b", x.left(2), 19);
        CHECK.due("the line stays", x.line(0, 2), 3);
        CHECK.none("no other", x.line(1, 0));
    }

    /** "Shared out among its spaces, each the whole part, the first ones one more." */
    private static void spreadByWholePartsAndOnes() {
        for (int rest = 0; rest <= 6; rest++) {
            House x = new House();
            int measure = 25 + rest;
            CHECK.due("four words, a wide one", Check.set(x, measure, "a b c d eeeee\n"), 2);
            CHECK.due("width", x.line(0, 0), measure);
            CHECK.due("first space", x.line(0, 3), 3 + (rest + 2) / 3);
            CHECK.due("last space", x.line(0, 4), 3 + rest / 3);
            CHECK.due("space in the middle", x.strip(0, 3), 30 + (rest + 1) / 3);
            CHECK.due("the space of the strip's end", x.strip(0, 5), 30 + (rest + 2) / 3);
            CHECK.due("the last line stays", x.line(1, 0), 20);
        }
    }

    /** "A line of one word, and the last one, stays." */
    private static void linesThatStay() {
        House x = new House();
        CHECK.due("two lines of one word", Check.set(x, 20, "aaa bbb\n"), 2);
        for (int line = 0; line < 2; line++) {
            CHECK.due("width", x.line(line, 0), 12);
            CHECK.due("first space", x.line(line, 3), 0);
            CHECK.due("last space", x.line(line, 4), 0);
        }
        CHECK.due("a last line of two words", Check.set(x, 100, "a b\n"), 1);
        CHECK.due("width", x.line(2, 0), 11);
        CHECK.due("first space", x.line(2, 3), 3);
        CHECK.due("last space", x.line(2, 4), 3);
        CHECK.due("a text's last line is not spread by the next text", set(x, "c d\n"), 1);
        CHECK.due("width", x.line(2, 0), 11);
        CHECK.due("one that is not the last", Check.set(x, 20, "ii iii iii\n"), 2);
        CHECK.due("is spread", x.line(4, 0), 20);
        CHECK.due("one word, then two", Check.set(x, 22, "mm kkkl a\n"), 2);
        CHECK.due("one word stays", x.line(6, 0), 10);
        CHECK.due("two as the last line stay", x.line(7, 0), 21);
    }

    /** "At most 16 (else it can't be set, too)." */
    private static void atMostSixteenLines() {
        for (int there = 0; there <= 16; there++) {
            for (int more : new int[] {1, 2, 11, 12}) {
                House x = new House();
                x.sorts(9, 99, 2);
                x.sorts(1, 99, 20);
                for (int left = there; left > 0; left -= 12) {
                    int now = Math.min(12, left);
                    CHECK.due("first lines", Check.set(x, 20, "a ".repeat(now - 1) + "a\n"), now);
                }
                x.sorts(1, 50, 20);
                boolean fits = there + more <= 16;
                CHECK.due(more + " to " + there, Check.set(x, 20, "a ".repeat(more - 1) + "a\n"), fits ? more : 0);
                CHECK.due("lines", x.count(9), fits ? there + more : there);
                CHECK.due("letters", x.left(1), fits ? 50 - more : 50);
                CHECK.none("none behind", x.line(fits ? there + more : there, 0));
                CHECK.due("WRONG all the same", Check.set(x, 20, "a?"), -1001);
            }
        }
    }

    /** "A line of the GALLEY, from 0 on .. how many are left; NONE if there is none such." */
    private static void distributeBounds() {
        House x = new House();
        for (int line : new int[] {-1, 0, 1}) {
            CHECK.none("of none: distribute(" + line + ")", x.distribute(line));
        }
        CHECK.due("three lines", Check.set(x, 20, "aaa bbb ccc\n"), 3);
        for (int line : new int[] {-1, 3, 4, 15, 16, MIN, MAX}) {
            CHECK.none("distribute(" + line + ")", x.distribute(line));
        }
        CHECK.due("all stay", x.count(9), 3);
        CHECK.due("no letters went back", x.left(3), 17);
        CHECK.due("distribute(2)", x.distribute(2), 2);
        CHECK.none("distribute(2) again", x.distribute(2));
        CHECK.due("distribute(0)", x.distribute(0), 1);
        CHECK.due("distribute(0)", x.distribute(0), 0);
        CHECK.none("of none", x.distribute(0));
        for (int letter = 1; letter <= 3; letter++) {
            CHECK.due("letters are back", x.left(letter), 20);
        }
    }

    /** "It goes from the GALLEY, those behind it move up, its letters go back." */
    private static void thoseBehindMoveUp() {
        for (int gone = 0; gone < 16; gone++) {
            House x = new House();
            for (int i = 0; i < 16; i++) {
                set(x, (char) ('a' + i) + " z\n");
            }
            CHECK.due("left", x.left(26), 4);
            CHECK.due("distribute", x.distribute(gone), 15);
            CHECK.due("its letter", x.left(gone + 1), 20);
            CHECK.due("its z", x.left(26), 5);
            for (int line = 0; line < 15; line++) {
                CHECK.due("line " + line, x.strip(line, 2), line < gone ? line + 1 : line + 2);
                CHECK.due("its words", x.line(line, 1), 2);
            }
            CHECK.none("the sixteenth", x.strip(15, 0));
            CHECK.due("a new one", set(x, "yyy\n"), 1);
            int[] fresh = {12, 1, 3, 0, 0};
            for (int what = 0; what < 5; what++) {
                CHECK.due("comes behind, " + what, x.line(15, what), fresh[what]);
            }
            CHECK.none("with no more on its strip", x.strip(15, 3));
            CHECK.due("the one ahead stays", x.line(14, 2), 2);
        }
    }

    /** "It may have more than 99 when they come back", and all of them can be set. */
    private static void moreThanNinetyNine() {
        House x = new House();
        x.sorts(1, 99, 1);
        String fifty = "aaaaaaaaaa ".repeat(5).substring(0, 54) + "\n";
        CHECK.due("fifty", set(x, fifty), 1);
        CHECK.due("left", x.left(1), 49);
        CHECK.due("sorts", x.sorts(1, 99, 1), 1);
        CHECK.due("distribute", x.distribute(0), 0);
        CHECK.due("left", x.left(1), 149);
        CHECK.due("144 go", set(x, "aaaaaaaaaaaa ".repeat(12).substring(0, 155) + "\n"), 1);
        CHECK.due("left", x.left(1), 5);
        CHECK.none("sorts(1, 100, 1) can't be told", x.sorts(1, 100, 1));
    }

    /** "What 0: its width, 1: words, 2: letters, 3: the width of its first space (0 without), 4: of its last." */
    private static void lineBounds() {
        House x = new House();
        for (int what = -1; what <= 5; what++) {
            CHECK.none("of none: line(0, " + what + ")", x.line(0, what));
        }
        Check.set(x, 26, "a b c mm\n");
        int[] due = {26, 3, 3, 7, 7};
        for (int what = 0; what < 5; what++) {
            CHECK.due("line(0, " + what + ")", x.line(0, what), due[what]);
            for (int line : new int[] {-1, 2, 3, 16, MIN, MAX}) {
                CHECK.none("line(" + line + ", " + what + ")", x.line(line, what));
            }
        }
        int[] last = {10, 1, 2, 0, 0};
        for (int what = 0; what < 5; what++) {
            CHECK.due("line(1, " + what + ")", x.line(1, what), last[what]);
        }
        for (int what : new int[] {-1, 5, 6, MIN, MAX}) {
            CHECK.none("line(0, " + what + ")", x.line(0, what));
        }
    }

    private static void linesKeepWhatTheyWereSetTo() {
        House x = new House();
        Check.set(x, 27, "a b c mm\n");
        x.sorts(1, 99, 20);
        x.sorts(13, 0, 1);
        CHECK.due("width", x.line(0, 0), 27);
        CHECK.due("first space", x.line(0, 3), 8);
        CHECK.due("last space", x.line(0, 4), 7);
        CHECK.due("width of the last", x.line(1, 0), 10);
        CHECK.due("distribute", x.distribute(1), 1);
        CHECK.due("m", x.left(13), 2);
        CHECK.due("the first stays", x.line(0, 0), 27);
    }

    /** "The i-th of THE STRIP .. from 0 on; NONE if there is none such." "From its last letter to its first." */
    private static void stripBounds() {
        House x = new House();
        CHECK.none("of none", x.strip(0, 0));
        set(x, "az by\n");
        int[] due = {25, 2, 30, 26, 1};
        for (int i = 0; i < due.length; i++) {
            CHECK.due("strip(0, " + i + ")", x.strip(0, i), due[i]);
        }
        for (int i : new int[] {-1, 5, 6, 154, 155, MIN, MAX}) {
            CHECK.none("strip(0, " + i + ")", x.strip(0, i));
        }
        for (int line : new int[] {-1, 1, 15, 16, MIN, MAX}) {
            CHECK.none("strip(" + line + ", 0)", x.strip(line, 0));
        }
        House y = new House();
        for (int letter = 1; letter <= 26; letter++) {
            y.sorts(letter, 99, 1);
        }
        CHECK.due("the longest", set(y, "abcdefghijkl ".repeat(12).substring(0, 155) + "\n"), 1);
        for (int i = 0; i < 155; i++) {
            CHECK.due("strip(0, " + i + ")", y.strip(0, i), i % 13 == 12 ? 30 : 12 - i % 13);
        }
        CHECK.none("strip(0, 155)", y.strip(0, 155));
    }

    /** "A space is 30 plus its width beyond 3, at most 40." */
    private static void spacesOfTheStrip() {
        for (int rest = 0; rest <= 22; rest++) {
            House x = new House();
            x.sorts(1, 9, 10);
            x.sorts(2, 9, 10);
            x.sorts(3, 9, 20);
            CHECK.due("a space of " + (3 + rest), Check.set(x, 23 + rest, "a b c\n"), 2);
            CHECK.due("its width", x.line(0, 3), 3 + rest);
            CHECK.due("on the strip", x.strip(0, 1), Math.min(40, 30 + rest));
            CHECK.due("the line's width", x.line(0, 0), 23 + rest);
        }
    }

    private static void wrongTextsChangeNothing() {
        String right = "abc abc abc abc\n";
        for (int length = 0; length <= right.length(); length++) {
            House x = new House();
            set(x, "abc\n");
            CHECK.due("wrong", Check.set(x, 20, right.substring(0, length) + "?"), -1000 - length);
            CHECK.due("one line", x.count(9), 1);
            for (int letter = 1; letter <= 3; letter++) {
                CHECK.due("letters", x.left(letter), 19);
            }
        }
    }
}
