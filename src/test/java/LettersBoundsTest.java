/** The boundary cases of Part VIII and of promises 30 to 34, sentence by sentence. */
public final class LettersBoundsTest {
    private static final Check CHECK = new Check();
    private static final int MIN = Integer.MIN_VALUE;
    private static final int MAX = Integer.MAX_VALUE;

    public static void main(String[] args) {
        fiveDigits();
        namesOfOneToEightBytes();
        oneToFortyLines();
        blanksAndLineEnds();
        eachLetterOnce();
        orderedByCodeThenName();
        upTo120();
        fullTextsChangeNothing();
        wrongTextsChangeNothing();
        bundlesBounds();
        refusedBundlesStay();
        bundlesAtFirst();
        directFromLeast();
        directFullOnesAndRest();
        areaFromWhatIsLeft();
        areaFullOnesAndRest();
        areaOfThreeDigits();
        mixedHoweverFew();
        numberedByKind();
        leastIsMost();
        mostBundles();
        letterBounds();
        bytesOfNames();
        cameAhead();
        bundleBounds();
        strikeBounds();
        bundlesFollowTheList();
        CHECK.finish();
    }

    /** "Five digits (the CODE)": any of them, 0 ahead, too. */
    private static void fiveDigits() {
        CHECK.wrong(Check::letters, "", 0);
        for (String code : new String[] {"00000", "00001", "09999", "10000", "99999"}) {
            House x = new House();
            CHECK.due("letters", Check.letters(x, code + " a\n"), 1);
            CHECK.due("CODE " + code, x.letter(0, 0), Integer.parseInt(code));
            for (int length = 0; length < 5; length++) {
                CHECK.wrong(Check::letters, code.substring(0, length), length);
                CHECK.wrong(Check::letters, code.substring(0, length) + " a\n", length);
                CHECK.wrong(Check::letters, code.substring(0, length) + "a" + code.substring(length + 1) + " a\n",
                        length);
                CHECK.wrong(Check::letters, code.substring(0, length) + "\n", length);
            }
            CHECK.wrong(Check::letters, code, 5);
            CHECK.wrong(Check::letters, code + "0 a\n", 5);
            CHECK.wrong(Check::letters, code + "a\n", 5);
            CHECK.wrong(Check::letters, code + "\n", 5);
        }
        CHECK.wrong(Check::letters, "1234/ a\n", 4);
        CHECK.wrong(Check::letters, "1234: a\n", 4);
        CHECK.wrong(Check::letters, "-1234 a\n", 0);
    }

    /** "A WORD of at most 8 (a NAME)"; "a NAME's ninth byte". */
    private static void namesOfOneToEightBytes() {
        for (String name : new String[] {"abcdefgh", "a1234567", "zzzzzzzz", "z9z9z9z9"}) {
            for (int length = 1; length <= 8; length++) {
                House x = new House();
                String text = "12345 " + name.substring(0, length);
                CHECK.due("letters", Check.letters(x, text + "\n"), 1);
                CHECK.due("bytes", x.letter(0, 1), length);
                for (int i = 0; i < length; i++) {
                    CHECK.due("byte " + i, x.letter(0, 10 + i), name.charAt(i));
                }
                CHECK.none("none behind", x.letter(0, 10 + length));
                CHECK.wrong(Check::letters, text, 6 + length);
                CHECK.wrong(Check::letters, text + " \n", 6 + length);
                CHECK.wrong(Check::letters, text + "A\n", 6 + length);
                CHECK.wrong(Check::letters, text + "-\n", 6 + length);
            }
            for (String more : new String[] {"a", "a\n", "0\n", "aa\n", " ", "?"}) {
                CHECK.wrong(Check::letters, "12345 " + name + more, 14);
            }
        }
        for (String none : new String[] {"", "\n", " a\n", "1\n", "1a\n", "A\n", "-\n"}) {
            CHECK.wrong(Check::letters, "12345 " + none, 6);
        }
    }

    private static String many(String code, int from, int many) {
        StringBuilder text = new StringBuilder();
        for (int i = from; i < from + many; i++) {
            text.append(code).append(' ').append((char) ('a' + i / 26)).append((char) ('a' + i % 26)).append('\n');
        }
        return text.toString();
    }

    /** "Lines, 1 to 40"; "a line too many at its first byte". */
    private static void oneToFortyLines() {
        CHECK.wrong(Check::letters, "\n", 0);
        for (int lines : new int[] {1, 2, 39, 40}) {
            House x = new House();
            CHECK.due(lines + " lines", Check.letters(x, many("12345", 0, lines)), lines);
        }
        String forty = many("12345", 0, 40);
        for (String more : new String[] {"12345 aa\n", "99999 z\n", "1", "x", "\n", " ", "?"}) {
            CHECK.wrong(Check::letters, forty + more, forty.length());
        }
        String last = many("12345", 0, 39);
        CHECK.wrong(Check::letters, last + "1", last.length() + 1);
        CHECK.wrong(Check::letters, last + "\n", last.length());
        CHECK.right(Check::letters, "12345 abcdefgh\n".repeat(40));
        CHECK.wrong(Check::letters, "12345 abcdefgh\n".repeat(41), 600);
    }

    private static void blanksAndLineEnds() {
        CHECK.wrong(Check::letters, " 12345 a\n", 0);
        CHECK.wrong(Check::letters, "12345  a\n", 6);
        CHECK.wrong(Check::letters, "12345 a b\n", 7);
        CHECK.wrong(Check::letters, "12345 a\n\n", 8);
        CHECK.wrong(Check::letters, "12345 a\n ", 8);
        CHECK.wrong(Check::letters, "12345 a\n12345 b", 15);
    }

    /** "Each LETTER with the same CODE and NAME once": that is there, or stands twice in a text. */
    private static void eachLetterOnce() {
        House x = new House();
        CHECK.due("twice in a text", Check.letters(x, "12345 a\n12345 a\n"), 1);
        CHECK.due("there already", Check.letters(x, "12345 a\n"), 1);
        CHECK.due("another NAME", Check.letters(x, "12345 b\n"), 2);
        CHECK.due("a longer NAME", Check.letters(x, "12345 aa\n12345 a0\n"), 4);
        CHECK.due("another CODE", Check.letters(x, "12346 a\n12344 a\n"), 6);
        CHECK.due("all of them again", Check.letters(x,
                "12346 a\n12344 a\n12345 a\n12345 b\n12345 aa\n12345 a0\n"), 6);
        CHECK.due("NAMES alike but for the eighth byte", Check.letters(x, "12345 abcdefgh\n12345 abcdefgi\n"), 8);
        CHECK.due("forty times one", Check.letters(x, "00000 x\n".repeat(40)), 9);
    }

    private static void order(String text, String[] due) {
        House x = new House();
        CHECK.due("letters", Check.letters(x, text), due.length);
        for (int i = 0; i < due.length; i++) {
            CHECK.due("CODE " + i, x.letter(i, 0), Integer.parseInt(due[i].substring(0, 5)));
            CHECK.due("length " + i, x.letter(i, 1), due[i].length() - 6);
            for (int k = 6; k < due[i].length(); k++) {
                CHECK.due("byte", x.letter(i, 10 + k - 6), due[i].charAt(k));
            }
        }
    }

    /** "Ordered by CODE, then NAME (byte by byte, a beginning ahead)." */
    private static void orderedByCodeThenName() {
        order("00010 a\n00009 b\n", new String[] {"00009 b", "00010 a"});
        order("99999 a\n00000 z\n50000 m\n", new String[] {"00000 z", "50000 m", "99999 a"});
        order("10000 b\n10000 a\n", new String[] {"10000 a", "10000 b"});
        order("10000 ab\n10000 a\n10000 abc\n", new String[] {"10000 a", "10000 ab", "10000 abc"});
        order("10000 b\n10000 ab\n10000 az\n", new String[] {"10000 ab", "10000 az", "10000 b"});
        order("10000 aa\n10000 a9\n10000 a0\n", new String[] {"10000 a0", "10000 a9", "10000 aa"});
        order("10000 abcdefgh\n10000 abcdefg\n10000 abcdefg9\n10000 abcdefgz\n",
                new String[] {"10000 abcdefg", "10000 abcdefg9", "10000 abcdefgh", "10000 abcdefgz"});
        order("10000 zzzzzzzz\n10001 a\n", new String[] {"10000 zzzzzzzz", "10001 a"});
        order("10000 z\n10000 azzzzzzz\n", new String[] {"10000 azzzzzzz", "10000 z"});
    }

    /** 120 LETTERS of CODES from 10000 on; then so many go from the end. */
    private static House filled(int many) {
        House x = new House();
        for (int text = 0; text < 3; text++) {
            StringBuilder lines = new StringBuilder();
            for (int i = 0; i < 40; i++) {
                lines.append(10000 + text * 40 + i).append(" n\n");
            }
            CHECK.due("letters", Check.letters(x, lines.toString()), 40 * text + 40);
        }
        for (int left = 119; left >= many; left--) {
            x.strike(left);
        }
        CHECK.due("letters", x.count(11), many);
        return x;
    }

    /** "FULL, and it stays, if there would be more than 120." */
    private static void upTo120() {
        for (int there : new int[] {80, 81, 119, 120}) {
            House x = filled(there);
            int room = 120 - there;
            if (room < 40) {
                CHECK.due("one too many", Check.letters(x, many("00000", 0, room + 1)), PaperHouse.FULL);
                CHECK.due("none came", x.count(11), there);
            }
            if (room > 0) {
                CHECK.due("just as many", Check.letters(x, many("00000", 0, room)), 120);
            }
            CHECK.due("one more", Check.letters(x, "99999 a\n"), PaperHouse.FULL);
            CHECK.due("one that is there", Check.letters(x, "10000 n\n"), 120);
            CHECK.due("one that is there, and a new one", Check.letters(x, "10000 n\n99999 a\n"), PaperHouse.FULL);
            CHECK.due("strike", x.strike(119), 119);
            CHECK.due("two more", Check.letters(x, "99999 a\n99999 b\n"), PaperHouse.FULL);
            CHECK.due("one more, told twice", Check.letters(x, "99999 a\n99999 a\n"), 120);
            CHECK.due("WRONG ahead of FULL", Check.letters(x, "99999 b\n99999 c\n?"), -1016);
        }
    }

    private static void fullTextsChangeNothing() {
        House x = filled(119);
        CHECK.due("bundles", x.bundles(4, 10), 12);
        CHECK.due("too many", Check.letters(x, "00000 a\n99999 a\n"), PaperHouse.FULL);
        CHECK.none("the tape is empty", x.end(1));
        CHECK.due("letters", x.count(11), 119);
        for (int i = 0; i < 119; i++) {
            CHECK.due("CODE " + i, x.letter(i, 0), 10000 + i);
            CHECK.due("came " + i, x.letter(i, 3), i);
        }
        CHECK.none("no other", x.letter(119, 0));
        CHECK.due("bundles stay", x.count(12), 12);
        CHECK.due("one goes", Check.letters(x, "00000 a\n"), 120);
        CHECK.due("it came last", x.letter(0, 3), 119);
    }

    private static void wrongTextsChangeNothing() {
        String right = "00001 b\n00000 ab\n";
        for (int length = 0; length <= right.length(); length++) {
            House x = new House();
            Check.letters(x, "12345 q\n");
            CHECK.due("wrong", Check.letters(x, right.substring(0, length) + "?"), -1000 - length);
            CHECK.due("one letter", x.count(11), 1);
            CHECK.due("its CODE", x.letter(0, 0), 12345);
            CHECK.due("its place", x.letter(0, 3), 0);
            CHECK.due("one bundle", x.count(12), 1);
        }
    }

    /** "(1 .. 30 each, L not above M)." */
    private static void bundlesBounds() {
        House x = new House();
        for (int l = 0; l <= 32; l++) {
            for (int m : new int[] {0, 1, l - 1, l, l + 1, 29, 30, 31}) {
                boolean can = l >= 1 && l <= 30 && m >= 1 && m <= 30 && l <= m;
                CHECK.due("bundles(" + l + ", " + m + ")", x.bundles(l, m), can ? 0 : PaperHouse.NONE);
            }
        }
        for (int strange : new int[] {MIN, -1, 0, 31, MAX}) {
            CHECK.none("bundles(" + strange + ", 30)", x.bundles(strange, 30));
            CHECK.none("bundles(1, " + strange + ")", x.bundles(1, strange));
        }
    }

    /** "NONE, and they stay, if they can't be." */
    private static void refusedBundlesStay() {
        int[][] refused = {{0, 5}, {1, 31}, {3, 2}, {31, 31}, {-1, 5}, {0, 0}, {1, 0}};
        for (int[] limits : refused) {
            House x = new House();
            Check.letters(x, many("12345", 0, 7));
            CHECK.due("bundles(2, 3)", x.bundles(2, 3), 3);
            CHECK.none("refused", x.bundles(limits[0], limits[1]));
            CHECK.due("three stay", x.count(12), 3);
            kinds(x, new int[][] {{0, 3, 0}, {0, 3, 3}, {2, 1, 6}});
            Check.letters(x, "12345 zz\n");
            kinds(x, new int[][] {{0, 3, 0}, {0, 3, 3}, {0, 2, 6}});
        }
    }

    private static void kinds(House x, int[][] due) {
        CHECK.due("bundles", x.count(12), due.length);
        for (int k = 0; k < due.length; k++) {
            for (int what = 0; what < 3; what++) {
                CHECK.due("bundle(" + k + ", " + what + ")", x.bundle(k, what), due[k][what]);
            }
        }
        CHECK.none("none behind", x.bundle(due.length, 0));
    }

    /** "4 and 10 at first." */
    private static void bundlesAtFirst() {
        House x = new House();
        Check.letters(x, many("12345", 0, 3));
        kinds(x, new int[][] {{2, 3, 0}});
        Check.letters(x, many("12345", 0, 4));
        kinds(x, new int[][] {{0, 4, 0}});
        Check.letters(x, many("12345", 0, 10));
        kinds(x, new int[][] {{0, 10, 0}});
        Check.letters(x, many("12345", 0, 11));
        kinds(x, new int[][] {{0, 10, 0}, {2, 1, 10}});
        Check.letters(x, many("12345", 0, 13));
        kinds(x, new int[][] {{0, 10, 0}, {2, 3, 10}});
        Check.letters(x, many("12345", 0, 14));
        kinds(x, new int[][] {{0, 10, 0}, {0, 4, 10}});
    }

    /** "Each CODE with L LETTERS or more by itself (DIRECT)." */
    private static void directFromLeast() {
        for (int least : new int[] {1, 2, 5, 29, 30}) {
            for (int size = least - 1; size <= least + 1; size++) {
                House x = new House();
                if (size > 0) {
                    Check.letters(x, many("12345", 0, size));
                    x.bundles(least, 30);
                    int first = Math.min(size, 30);
                    CHECK.due(size + " of at least " + least, x.bundle(0, 0), size < least ? 2 : 0);
                    CHECK.due("its size", x.bundle(0, 1), first);
                    CHECK.due("bundles", x.count(12), size > 30 ? 2 : 1);
                }
            }
        }
    }

    /** "As many full ones of M as go, then the rest, if that is L or more." */
    private static void directFullOnesAndRest() {
        for (int least = 1; least <= 5; least++) {
            for (int most = least; most <= 5; most++) {
                for (int size = 1; size <= 17; size++) {
                    House x = new House();
                    Check.letters(x, many("12345", 0, size));
                    CHECK.due("bundles", x.bundles(least, most) > 0);
                    int full = size / most;
                    int rest = size % most;
                    for (int k = 0; k < full; k++) {
                        CHECK.due("a full one", x.bundle(k, 1), most);
                        CHECK.due("DIRECT", x.bundle(k, 0), 0);
                        CHECK.due("its first", x.bundle(k, 2), k * most);
                    }
                    if (rest > 0) {
                        CHECK.due("the rest", x.bundle(full, 1), rest);
                        CHECK.due("its kind", x.bundle(full, 0), rest >= least ? 0 : 2);
                        CHECK.due("its first", x.bundle(full, 2), full * most);
                    }
                    CHECK.due("all", x.count(12), full + (rest > 0 ? 1 : 0));
                }
            }
        }
    }

    /** "Then what is left of each three first digits likewise (AREA), by CODE." */
    private static void areaFromWhatIsLeft() {
        House x = new House();
        Check.letters(x, many("10000", 0, 2) + many("10050", 0, 1) + many("10099", 0, 1));
        CHECK.due("L 4", x.bundles(4, 5), 1);
        kinds(x, new int[][] {{1, 4, 0}});
        CHECK.due("L 5", x.bundles(5, 5), 1);
        kinds(x, new int[][] {{2, 4, 0}});
        CHECK.due("L 3 and M 3: full one, rest", x.bundles(3, 3), 2);
        kinds(x, new int[][] {{1, 3, 0}, {2, 1, 3}});
        CHECK.due("L 2: one CODE is DIRECT", x.bundles(2, 3), 2);
        kinds(x, new int[][] {{0, 2, 0}, {1, 2, 2}});
        House y = new House();
        Check.letters(y, many("10000", 0, 5) + many("10001", 0, 4) + many("10002", 0, 1));
        CHECK.due("rests of DIRECT ones", y.bundles(3, 3), 4);
        kinds(y, new int[][] {{0, 3, 0}, {0, 3, 5}, {1, 3, 3}, {2, 1, 9}});
        int[] due = {0, 0, 0, 2, 2, 1, 1, 1, 2, 3};
        for (int i = 0; i < due.length; i++) {
            CHECK.due("BUNDLE of " + i, y.letter(i, 2), due[i]);
        }
    }

    /** "Likewise": full ones of M, then the rest, if that is L or more; each CODE has too few by itself. */
    private static void areaFullOnesAndRest() {
        for (int least = 2; least <= 5; least++) {
            for (int most = least; most <= 5; most++) {
                for (int size = 1; size <= 17; size++) {
                    House x = new House();
                    StringBuilder text = new StringBuilder();
                    for (int i = 0; i < size; i++) {
                        text.append(55500 + 6 * i).append(" a\n");
                    }
                    Check.letters(x, text.toString());
                    int full = size / most;
                    int rest = size % most;
                    CHECK.due("all", x.bundles(least, most), full + (rest > 0 ? 1 : 0));
                    for (int k = 0; k < full; k++) {
                        CHECK.due("AREA", x.bundle(k, 0), 1);
                        CHECK.due("a full one", x.bundle(k, 1), most);
                        CHECK.due("its first", x.bundle(k, 2), k * most);
                    }
                    if (rest > 0) {
                        CHECK.due("its kind", x.bundle(full, 0), rest >= least ? 1 : 2);
                        CHECK.due("the rest", x.bundle(full, 1), rest);
                        CHECK.due("its first", x.bundle(full, 2), full * most);
                    }
                }
            }
        }
    }

    private static void areaOfThreeDigits() {
        House x = new House();
        Check.letters(x, many("09999", 0, 1) + many("10000", 0, 1) + many("10099", 0, 1) + many("10100", 0, 1));
        CHECK.due("10000 and 10099 alone", x.bundles(2, 30), 2);
        kinds(x, new int[][] {{1, 2, 1}, {2, 2, 0}});
        House y = new House();
        Check.letters(y, many("00000", 0, 1) + many("00099", 0, 1) + many("00100", 0, 1) + many("00199", 0, 1)
                + many("99900", 0, 1) + many("99999", 0, 1));
        CHECK.due("three", y.bundles(2, 30), 3);
        kinds(y, new int[][] {{1, 2, 0}, {1, 2, 2}, {1, 2, 4}});
        CHECK.due("three", y.bundles(2, 2), 3);
    }

    /** "Then all that is left (MIXED) in ones of M and the rest, however few." */
    private static void mixedHoweverFew() {
        for (int size = 1; size <= 13; size++) {
            House x = new House();
            StringBuilder text = new StringBuilder();
            for (int i = 0; i < size; i++) {
                text.append(10000 + 100 * i).append(" a\n");
            }
            Check.letters(x, text.toString());
            int bundles = (size + 3) / 4;
            CHECK.due("of " + size, x.bundles(3, 4), bundles);
            for (int k = 0; k < bundles; k++) {
                CHECK.due("MIXED", x.bundle(k, 0), 2);
                CHECK.due("size", x.bundle(k, 1), Math.min(4, size - 4 * k));
                CHECK.due("first", x.bundle(k, 2), 4 * k);
            }
        }
    }

    /** "All DIRECT ones by CODE, then AREA ones, then MIXED ones; each takes its LETTERS in their order." */
    private static void numberedByKind() {
        House x = new House();
        Check.letters(x, many("10000", 0, 1) + many("20000", 0, 1) + many("20001", 0, 1) + many("30000", 0, 2)
                + many("40000", 0, 1) + many("40001", 0, 1) + many("50000", 0, 3) + many("60000", 0, 1));
        CHECK.due("bundles", x.bundles(2, 2), 6);
        kinds(x, new int[][] {{0, 2, 3}, {0, 2, 7}, {1, 2, 1}, {1, 2, 5}, {2, 2, 0}, {2, 1, 10}});
        int[] due = {4, 2, 2, 0, 0, 3, 3, 1, 1, 4, 5};
        for (int i = 0; i < due.length; i++) {
            CHECK.due("BUNDLE of " + i, x.letter(i, 2), due[i]);
        }
    }

    private static void leastIsMost() {
        House x = new House();
        Check.letters(x, many("10000", 0, 7));
        CHECK.due("L 1, M 1", x.bundles(1, 1), 7);
        CHECK.due("all DIRECT", x.bundle(6, 0), 0);
        CHECK.due("L 7, M 7", x.bundles(7, 7), 1);
        kinds(x, new int[][] {{0, 7, 0}});
        CHECK.due("L 8, M 8", x.bundles(8, 8), 1);
        kinds(x, new int[][] {{2, 7, 0}});
        CHECK.due("L 6, M 6", x.bundles(6, 6), 2);
        kinds(x, new int[][] {{0, 6, 0}, {2, 1, 6}});
        CHECK.due("L 30, M 30", x.bundles(30, 30), 1);
        kinds(x, new int[][] {{2, 7, 0}});
    }

    private static void mostBundles() {
        House x = filled(120);
        CHECK.due("bundles(1, 1)", x.bundles(1, 1), 120);
        for (int i = 0; i < 120; i++) {
            CHECK.due("BUNDLE of " + i, x.letter(i, 2), i);
            CHECK.due("first of " + i, x.bundle(i, 2), i);
        }
        CHECK.none("bundle(120, 0)", x.bundle(120, 0));
        CHECK.due("bundles(30, 30)", x.bundles(30, 30), 4);
        kinds(x, new int[][] {{1, 30, 0}, {1, 30, 30}, {1, 30, 60}, {2, 30, 90}});
    }

    /** "Of LETTER i .. what 0 .. 3 .. or 10 and more .. NONE if there is none such." */
    private static void letterBounds() {
        House x = new House();
        for (int what = -1; what < 12; what++) {
            CHECK.none("of none: letter(0, " + what + ")", x.letter(0, what));
        }
        Check.letters(x, "12345 abcdefgh\n12346 b\n");
        for (int what : new int[] {0, 1, 2, 3, 10}) {
            CHECK.due("the first: " + what, x.letter(0, what) != PaperHouse.NONE);
            CHECK.due("the last: " + what, x.letter(1, what) != PaperHouse.NONE);
            for (int i : new int[] {-1, 2, 3, 119, 120, MIN, MAX}) {
                CHECK.none("letter(" + i + ", " + what + ")", x.letter(i, what));
            }
        }
        for (int what : new int[] {-1, 4, 5, 6, 7, 8, 9, 18, 19, 100, MIN, MAX}) {
            CHECK.none("letter(0, " + what + ")", x.letter(0, what));
        }
        CHECK.none("letter(1, 11)", x.letter(1, 11));
    }

    private static void bytesOfNames() {
        House x = new House();
        Check.letters(x, "12345 z0a9\n");
        CHECK.due("bytes", x.letter(0, 1), 4);
        CHECK.due("byte 0", x.letter(0, 10), 'z');
        CHECK.due("byte 1", x.letter(0, 11), '0');
        CHECK.due("byte 2", x.letter(0, 12), 'a');
        CHECK.due("byte 3", x.letter(0, 13), '9');
        CHECK.none("byte 4", x.letter(0, 14));
        CHECK.none("byte -1", x.letter(0, 9));
    }

    /** "How many of those that are there came ahead of it": those that went do not count. */
    private static void cameAhead() {
        House x = new House();
        Check.letters(x, "00003 a\n00001 a\n");
        Check.letters(x, "00002 a\n00001 a\n00000 a\n");
        int[] due = {3, 1, 2, 0};
        for (int i = 0; i < 4; i++) {
            CHECK.due("came " + i, x.letter(i, 3), due[i]);
        }
        CHECK.due("the first comer goes", x.strike(3), 3);
        int[] then = {2, 0, 1};
        for (int i = 0; i < 3; i++) {
            CHECK.due("then " + i, x.letter(i, 3), then[i]);
        }
        Check.letters(x, "00003 a\n00001 a\n");
        CHECK.due("it comes anew, as the last", x.letter(3, 3), 3);
        CHECK.due("one that is there stays in its place", x.letter(1, 3), 0);
    }

    /** "Of BUNDLE k, from 0 on, what 0 .. 2. NONE if there is none such." */
    private static void bundleBounds() {
        House x = new House();
        for (int what = -1; what < 4; what++) {
            CHECK.none("of none: bundle(0, " + what + ")", x.bundle(0, what));
        }
        Check.letters(x, many("12345", 0, 5));
        CHECK.due("bundles", x.bundles(2, 2), 3);
        for (int what = 0; what < 3; what++) {
            CHECK.due("the last", x.bundle(2, what), new int[] {2, 1, 4}[what]);
            for (int k : new int[] {-1, 3, 4, 119, 120, MIN, MAX}) {
                CHECK.none("bundle(" + k + ", " + what + ")", x.bundle(k, what));
            }
        }
        for (int what : new int[] {-1, 3, 4, MIN, MAX}) {
            CHECK.none("bundle(0, " + what + ")", x.bundle(0, what));
        }
    }

    /** "LETTER i, in THE LIST's order, goes: how many there are; NONE if there is none such." */
    private static void strikeBounds() {
        House x = new House();
        for (int i : new int[] {-1, 0, 1}) {
            CHECK.none("of none: strike(" + i + ")", x.strike(i));
        }
        Check.letters(x, "00001 a\n00002 a\n00003 a\n00004 a\n");
        for (int i : new int[] {-1, 4, 5, 119, 120, MIN, MAX}) {
            CHECK.none("strike(" + i + ")", x.strike(i));
        }
        CHECK.due("four stay", x.count(11), 4);
        CHECK.due("the last", x.strike(3), 3);
        CHECK.none("again", x.strike(3));
        CHECK.due("the first", x.strike(0), 2);
        CHECK.due("2 is the first", x.letter(0, 0), 2);
        CHECK.due("3 is the last", x.letter(1, 0), 3);
        CHECK.none("none behind", x.letter(2, 0));
        CHECK.due("the second", x.strike(1), 1);
        CHECK.due("the only one", x.strike(0), 0);
        CHECK.none("of none", x.strike(0));
        CHECK.due("no BUNDLES", x.count(12), 0);
        for (int at = 0; at < 4; at++) {
            House z = new House();
            Check.letters(z, "00003 c3\n00001 a\n00004 d444\n00002 bbb\n");
            int[] came = {1, 3, 0, 2};
            int[] bytes = {1, 3, 2, 4};
            CHECK.due("strike(" + at + ")", z.strike(at), 3);
            for (int i = 0; i < 3; i++) {
                int was = i < at ? i : i + 1;
                CHECK.due("CODE " + i, z.letter(i, 0), was + 1);
                CHECK.due("bytes " + i, z.letter(i, 1), bytes[was]);
                CHECK.due("NAME " + i, z.letter(i, 10), 'a' + was);
                CHECK.due("came " + i, z.letter(i, 3), came[was] - (came[at] < came[was] ? 1 : 0));
            }
        }
        for (int at : new int[] {0, 60, 119}) {
            House y = filled(120);
            CHECK.due("strike of 120", y.strike(at), 119);
            for (int i = 0; i < 119; i++) {
                CHECK.due("CODE " + i, y.letter(i, 0), 10000 + (i < at ? i : i + 1));
            }
            CHECK.none("letter(119, 0)", y.letter(119, 0));
        }
    }

    /** BUNDLES are those of THE LIST as it is, behind every change. */
    private static void bundlesFollowTheList() {
        House x = new House();
        x.bundles(2, 3);
        CHECK.due("none", x.count(12), 0);
        Check.letters(x, many("12345", 0, 1));
        kinds(x, new int[][] {{2, 1, 0}});
        Check.letters(x, many("12345", 1, 1));
        kinds(x, new int[][] {{0, 2, 0}});
        Check.letters(x, many("12344", 0, 1));
        kinds(x, new int[][] {{0, 2, 1}, {2, 1, 0}});
        x.strike(0);
        kinds(x, new int[][] {{0, 2, 0}});
        x.strike(0);
        kinds(x, new int[][] {{2, 1, 0}});
        CHECK.due("BUNDLE of the last", x.letter(0, 2), 0);
        x.strike(0);
        kinds(x, new int[][] {});
        Check.letters(x, "10000 a\n");
        CHECK.due("a LETTER's BUNDLE asked first", x.letter(0, 2), 0);
        Check.letters(x, "20000 a\n20000 b\n");
        CHECK.due("a LETTER's BUNDLE asked first", x.letter(0, 2), 1);
        x.strike(0);
        CHECK.due("a BUNDLE asked first", x.bundle(0, 2), 0);
        x.strike(0);
        CHECK.due("a BUNDLE asked first", x.bundle(0, 0), 2);
        x.strike(0);
        CHECK.none("a BUNDLE asked first", x.bundle(0, 0));
    }
}
