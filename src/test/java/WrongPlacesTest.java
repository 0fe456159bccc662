import java.util.ArrayList;
import java.util.List;
import java.util.function.IntPredicate;

/**
 * Part I for all texts: right ones with a byte more, less or another one, and cut off, at each place. Where they are
 * WRONG is told by readers that are written by the document's forms, beside the class.
 */
public final class WrongPlacesTest {
    private static final Check CHECK = new Check();
    private static final String BYTES = "\n 0123456789abcdefhilorstuxyzA-~\u0000\u001f\u007f\u0080\u00ff";

    public static void main(String[] args) {
        compare(Check::cut, CutReader::new, "roll 100 5\ncut 50 3\ncut 30 4\ncut 20 2\n");
        compare(Check::cut, CutReader::new, "roll 400 6\ncut 10 4\ncut 11 4\ncut 12 4\ncut 13 4\n");
        compare(Check::cut, CutReader::new, "roll 50 1\ncut 12 9\ncut 50 7\n");
        compare(Check::fold, FoldReader::new, "sheet 2 2\nfold lt\n");
        compare(Check::fold, FoldReader::new, "sheet 8 4\nfold bltrb\n");
        compare(Check::fold, FoldReader::new, "sheet 1 1\nfold \n");
        compare((x, text) -> Check.draw(x, 0, text), DrawReader::new, "box 0 0 4 4 16\nline 0 7 7 7 5\n");
        compare((x, text) -> Check.draw(x, 31, text), DrawReader::new, "line 3 1 3 7 10\nbox 7 7 8 8 0\n");
        compare((x, text) -> Check.set(x, 200, text), SetReader::new, "the quick brown fox\n");
        compare((x, text) -> Check.set(x, 20, text), SetReader::new, "a b c d e f g h i j k l\n");
        compare((x, text) -> Check.set(x, 100, text), SetReader::new, "abcdefghijkl mnopqrstuvwx\n");
        compare((x, text) -> Check.pile(x, 100, 50, text), PileReader::new, "x 0 30\ny 1 20\nx 0 5\ny 2 29\n");
        compare((x, text) -> Check.pile(x, 100, 50, text), PileReader::new, "");
        compare(Check::gather, GatherReader::new, "1 2 3\n");
        compare(Check::gather, GatherReader::new, "8 7 6 5 4 3 2 1 8 7 6 5 4 3 2 1 8 7 6 5\n");
        compare(Check::letters, LettersReader::new, "10001 a\n10001 b1\n00000 abcdefgh\n");
        CHECK.finish();
    }

    private interface MakeReader {
        Reader of(String text);
    }

    private static void compare(Check.TextCall call, MakeReader reader, String right) {
        List<String> texts = new ArrayList<>();
        for (int at = 0; at <= right.length(); at++) {
            String ahead = right.substring(0, at);
            texts.add(ahead);
            for (char b : BYTES.toCharArray()) {
                texts.add(ahead + b);
                texts.add(ahead + b + right.substring(at));
                if (at < right.length()) {
                    texts.add(ahead + b + right.substring(at + 1));
                }
            }
            if (at < right.length()) {
                texts.add(ahead + right.substring(at + 1));
            }
        }
        CHECK.due("the text itself is right", reader.of(right).place(), -1);
        for (String text : texts) {
            int place = reader.of(text).place();
            int answer = call.of(new House(), text);
            String shown = text.replace("\n", "/");
            if (place < 0) {
                CHECK.due(shown + " is right, but answers " + answer + ":", answer >= 0);
            } else {
                CHECK.due(shown, answer, -1000 - place);
            }
        }
    }

    private static final class WrongAt extends Exception {
        private static final long serialVersionUID = 1;
        private final int place;

        WrongAt(int place) {
            this.place = place;
        }
    }

    /** Takes runs of bytes off a text; what can't be there ends it with its place. */
    private abstract static class Reader {
        private final String text;
        private int at = 0;
        private int token = 0;

        Reader(String text) {
            this.text = text;
        }

        abstract void read() throws WrongAt;

        /** Where the text is WRONG; -1 if it is right. */
        int place() {
            try {
                read();
                if (more()) {
                    throw new WrongAt(at);
                }
                return -1;
            } catch (WrongAt wrong) {
                return wrong.place;
            }
        }

        boolean more() {
            return at < text.length();
        }

        boolean next(char c) {
            return more() && text.charAt(at) == c;
        }

        /** The longest run of bytes that all are of some kind, at most so many. */
        String run(String kind, int most) {
            token = at;
            while (more() && at - token < most && text.substring(at, at + 1).matches(kind)) {
                at++;
            }
            return text.substring(token, at);
        }

        void exactly(char c) throws WrongAt {
            if (!next(c)) {
                throw new WrongAt(at);
            }
            at++;
        }

        void tokenIf(boolean right) throws WrongAt {
            if (!right) {
                throw new WrongAt(token);
            }
        }

        int number(IntPredicate range) throws WrongAt {
            String digits = run("[0-9]", Integer.MAX_VALUE);
            tokenIf(!digits.isEmpty());
            if (digits.startsWith("0") && digits.length() > 1) {
                throw new WrongAt(token + 1);
            }
            if (digits.length() > 6) {
                throw new WrongAt(token + 6);
            }
            tokenIf(range.test(Integer.parseInt(digits)));
            return Integer.parseInt(digits);
        }

        int blankAndNumber(int low, int high) throws WrongAt {
            exactly(' ');
            return number(n -> n >= low && n <= high);
        }

        String word(String... told) throws WrongAt {
            tokenIf(true);
            int from = at;
            String word = more() && text.substring(at, at + 1).matches("[a-z]") ? run("[a-z0-9]", 9999) : "";
            if (!List.of(told).contains(word)) {
                throw new WrongAt(from);
            }
            return word;
        }
    }

    private static final class CutReader extends Reader {
        CutReader(String text) {
            super(text);
        }

        @Override
        void read() throws WrongAt {
            word("roll");
            int roll = blankAndNumber(50, 400);
            blankAndNumber(1, 6);
            exactly('\n');
            List<Integer> widths = new ArrayList<>();
            int all = 0;
            while (widths.isEmpty() || more() && widths.size() < 4) {
                word("cut");
                int width = blankAndNumber(10, roll);
                tokenIf(!widths.contains(width));
                widths.add(width);
                int wanted = blankAndNumber(1, 9);
                all += wanted;
                tokenIf(all <= 16);
                exactly('\n');
            }
        }
    }

    private static final class FoldReader extends Reader {
        FoldReader(String text) {
            super(text);
        }

        @Override
        void read() throws WrongAt {
            word("sheet");
            exactly(' ');
            int rows = number(n -> List.of(1, 2, 4, 8).contains(n));
            exactly(' ');
            int columns = number(n -> List.of(1, 2, 4, 8).contains(n));
            exactly('\n');
            word("fold");
            exactly(' ');
            while (rows > 1 || columns > 1) {
                if (columns > 1 && (next('l') || next('r'))) {
                    columns /= 2;
                } else if (rows > 1 && (next('t') || next('b'))) {
                    rows /= 2;
                } else {
                    run("x", 0);
                    tokenIf(false);
                }
                run("[lrtb]", 1);
            }
            exactly('\n');
        }
    }

    private static final class DrawReader extends Reader {
        DrawReader(String text) {
            super(text);
        }

        @Override
        void read() throws WrongAt {
            int lines = 0;
            while (lines == 0 || more() && lines < 40) {
                boolean box = word("box", "line").equals("box");
                int x = blankAndNumber(0, 7);
                int y = blankAndNumber(0, 7);
                int third = blankAndNumber(box ? 1 : 0, box ? 8 : 7);
                int fourth = blankAndNumber(box ? 1 : 0, box ? 8 : 7);
                tokenIf(box || x == third || y == fourth);
                blankAndNumber(0, 16);
                exactly('\n');
                lines++;
            }
        }
    }

    private static final class SetReader extends Reader {
        SetReader(String text) {
            super(text);
        }

        @Override
        void read() throws WrongAt {
            int words = 0;
            while (words == 0 || words < 12 && next(' ')) {
                if (words > 0) {
                    exactly(' ');
                }
                tokenIf(run("[a-z]", 12).length() > 0);
                words++;
            }
            exactly('\n');
        }
    }

    /** For a PILE of 100 by 50. */
    private static final class PileReader extends Reader {
        PileReader(String text) {
            super(text);
        }

        @Override
        void read() throws WrongAt {
            List<int[]> pieces = new ArrayList<>(List.of(new int[] {100, 50}));
            while (more() && pieces.size() < 31) {
                int way = word("x", "y").equals("x") ? 0 : 1;
                int[] piece = pieces.get(blankAndNumber(0, pieces.size() - 1));
                int far = blankAndNumber(1, piece[way] - 1);
                exactly('\n');
                int[] other = piece.clone();
                other[way] -= far;
                piece[way] = far;
                pieces.add(other);
            }
        }
    }

    private static final class GatherReader extends Reader {
        GatherReader(String text) {
            super(text);
        }

        @Override
        void read() throws WrongAt {
            number(n -> n >= 1 && n <= 8);
            for (int marks = 1; marks < 20 && next(' '); marks++) {
                blankAndNumber(1, 8);
            }
            exactly('\n');
        }
    }

    private static final class LettersReader extends Reader {
        LettersReader(String text) {
            super(text);
        }

        @Override
        void read() throws WrongAt {
            int lines = 0;
            while (lines == 0 || more() && lines < 40) {
                for (int i = 0; i < 5; i++) {
                    tokenIf(run("[0-9]", 1).length() == 1);
                }
                exactly(' ');
                tokenIf(run("[a-z]", 1).length() == 1);
                run("[a-z0-9]", 7);
                exactly('\n');
                lines++;
            }
        }
    }
}
