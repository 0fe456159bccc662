import java.util.ArrayList;
import java.util.List;
import java.util.Random;

/** Promises 20 to 25, and count 9 of promise 40. */
public final class TypeTest {
    private static final Check CHECK = new Check();

    public static void main(String[] args) {
        wrongTexts();
        limits();
        sortsRunOut();
        galleyIsFull();
        spreading();
        linesKeepTheirWidths();
        beyondNinetyNine();
        longestLine();
        anyTexts();
        CHECK.finish();
    }

    private static void wrong(String text, int place) {
        House x = new House();
        CHECK.due("set of " + text.replace("\n", "/"), Check.set(x, 100, text), -1000 - place);
        CHECK.due("nothing is set", x.count(9), 0);
        CHECK.due("nothing is taken", x.left(1), 20);
    }

    private static void wrongTexts() {
        wrong("", 0);
        wrong("\n", 0);
        wrong("a", 1);
        wrong(" a\n", 0);
        wrong("a \n", 2);
        wrong("a  b\n", 2);
        wrong("a b", 3);
        wrong("a1\n", 1);
        wrong("A\n", 0);
        wrong("a\nb\n", 2);
        wrong("a\n\n", 2);
        wrong("a-b\n", 1);
        wrong("abcdefghijklm\n", 12);
        wrong("x abcdefghijklm", 14);
        wrong("a b c d e f g h i j k l m\n", 23);
        wrong("a b c d e f g h i j k l \n", 23);
        wrong("a b c d e f g h i j k l", 23);
    }

    private static void limits() {
        House x = new House();
        CHECK.due("sorts(0, 1, 1)", x.sorts(0, 1, 1), PaperHouse.NONE);
        CHECK.due("sorts(27, 1, 1)", x.sorts(27, 1, 1), PaperHouse.NONE);
        CHECK.due("sorts(1, -1, 1)", x.sorts(1, -1, 1), PaperHouse.NONE);
        CHECK.due("sorts(1, 100, 1)", x.sorts(1, 100, 1), PaperHouse.NONE);
        CHECK.due("sorts(1, 1, 0)", x.sorts(1, 1, 0), PaperHouse.NONE);
        CHECK.due("sorts(1, 1, 21)", x.sorts(1, 1, 21), PaperHouse.NONE);
        CHECK.due("nothing changed", x.left(1), 20);
        CHECK.due("sorts(1, 99, 20)", x.sorts(1, 99, 20), 1);
        CHECK.due("left(1)", x.left(1), 99);
        CHECK.due("sorts(26, 0, 1)", x.sorts(26, 0, 1), 1);
        CHECK.due("left(26)", x.left(26), 0);
        CHECK.due("left(0)", x.left(0), PaperHouse.NONE);
        CHECK.due("left(27)", x.left(27), PaperHouse.NONE);
        CHECK.due("set(19)", Check.set(x, 19, "a\n"), PaperHouse.NONE);
        CHECK.due("set(201)", x.set(201), PaperHouse.NONE);
        CHECK.due("set(20)", x.set(20), 1);
        CHECK.due("line(0, 0)", x.line(0, 0), 20);
        CHECK.due("line(0, 5)", x.line(0, 5), PaperHouse.NONE);
        CHECK.due("line(0, -1)", x.line(0, -1), PaperHouse.NONE);
        CHECK.due("line(1, 0)", x.line(1, 0), PaperHouse.NONE);
        CHECK.due("line(-1, 0)", x.line(-1, 0), PaperHouse.NONE);
        CHECK.due("strip(0, 1)", x.strip(0, 1), PaperHouse.NONE);
        CHECK.due("strip(0, -1)", x.strip(0, -1), PaperHouse.NONE);
        CHECK.due("strip(1, 0)", x.strip(1, 0), PaperHouse.NONE);
        CHECK.due("strip(0, 0)", x.strip(0, 0), 1);
        CHECK.due("distribute(1)", x.distribute(1), PaperHouse.NONE);
        CHECK.due("distribute(-1)", x.distribute(-1), PaperHouse.NONE);
        CHECK.due("distribute(0)", x.distribute(0), 0);
        CHECK.due("distribute(0) of none", x.distribute(0), PaperHouse.NONE);
        CHECK.due("too wide alone", Check.set(x, 39, "b aa\n"), 0);
        CHECK.due("just wide enough", Check.set(x, 40, "b aa\n"), 2);
    }

    private static void sortsRunOut() {
        House x = new House();
        x.sorts(1, 3, 4);
        CHECK.due("four of three", Check.set(x, 200, "aa b aa\n"), 0);
        CHECK.due("none is taken", x.left(1), 3);
        CHECK.due("none is taken", x.left(2), 20);
        CHECK.due("three of three", Check.set(x, 200, "aa b a\n"), 1);
        CHECK.due("all are taken", x.left(1), 0);
        CHECK.due("one of none", Check.set(x, 200, "a\n"), 0);
        CHECK.due("distribute", x.distribute(0), 0);
        CHECK.due("they are back", x.left(1), 3);
    }

    private static void galleyIsFull() {
        House x = new House();
        CHECK.due("9 lines", Check.set(x, 20, "mmmm mmmm mmmm m b c d wwww wwww wwww a b\n"), 9);
        CHECK.due("9 lines", x.count(9), 9);
        CHECK.due("4 more", Check.set(x, 20, "e f g h k n o p q r s t\n"), 4);
        CHECK.due("13 lines", x.count(9), 13);
        House z = new House();
        CHECK.due("12 lines", Check.set(z, 20, "aaa bbb ccc ddd eee fff ggg hhh kkk nnn ooo ppp\n"), 12);
        CHECK.due("the last one", z.strip(11, 0), 16);
        House y = new House();
        for (int i = 0; i < 15; i++) {
            CHECK.due("line " + i, Check.set(y, 20, "i\n"), 1);
        }
        CHECK.due("two more do not go", Check.set(y, 20, "wwww wwww\n"), 0);
        CHECK.due("no w is taken", y.left(23), 20);
        CHECK.due("one more goes", Check.set(y, 20, "wwww\n"), 1);
        CHECK.due("16 lines", y.count(9), 16);
        CHECK.due("none goes", Check.set(y, 20, "a\n"), 0);
        CHECK.due("line 15", y.line(15, 0), 20);
        CHECK.due("distribute(3)", y.distribute(3), 15);
        CHECK.due("those behind move up", y.line(14, 0), 20);
        CHECK.due("one goes again", Check.set(y, 20, "ab\n"), 1);
        CHECK.due("it is the last one", y.strip(15, 0), 2);
    }

    private static void spreading() {
        House x = new House();
        CHECK.due("set", Check.set(x, 29, "a b c d a\n"), 2);
        int[] due = {29, 4, 4, 5, 4};
        for (int what = 0; what < 5; what++) {
            CHECK.due("line 0, " + what, x.line(0, what), due[what]);
        }
        int[] strip = {4, 31, 3, 31, 2, 32, 1};
        for (int i = 0; i < strip.length; i++) {
            CHECK.due("strip " + i, x.strip(0, i), strip[i]);
        }
        CHECK.due("strip 7", x.strip(0, 7), PaperHouse.NONE);
        CHECK.due("the last line stays", x.line(1, 0), 4);
        CHECK.due("no space", x.line(1, 3), 0);
        CHECK.due("no space", x.line(1, 4), 0);
        CHECK.due("set", Check.set(x, 100, "a b\n"), 1);
        CHECK.due("a last line is not spread", x.line(2, 0), 11);
        CHECK.due("its space", x.line(2, 3), 3);
        CHECK.due("its space for the caster", x.strip(2, 1), 30);
        CHECK.due("set", Check.set(x, 20, "mm bbbb\n"), 2);
        CHECK.due("a line of one word stays", x.line(3, 0), 10);
        CHECK.due("set", Check.set(x, 24, "i i mmmm i\n"), 3);
        CHECK.due("the first line's space", x.line(5, 3), 20);
        CHECK.due("a wide space is 40", x.strip(5, 1), 40);
        CHECK.due("set", Check.set(x, 23, "iii iiii iii\n"), 2);
        CHECK.due("a space of 9", x.line(8, 3), 9);
        CHECK.due("is 36", x.strip(8, 4), 36);
    }

    private static void linesKeepTheirWidths() {
        House x = new House();
        Check.set(x, 100, "ab ab\n");
        x.sorts(1, 5, 20);
        CHECK.due("width stays", x.line(0, 0), 19);
        CHECK.due("distribute", x.distribute(0), 0);
        CHECK.due("letters come to those that are there", x.left(1), 7);
        CHECK.due("others, too", x.left(2), 20);
    }

    private static void beyondNinetyNine() {
        House x = new House();
        Check.set(x, 100, "aaaaaaaa\n");
        x.sorts(1, 99, 1);
        CHECK.due("distribute", x.distribute(0), 0);
        CHECK.due("more than 99", x.left(1), 107);
    }

    private static void longestLine() {
        House x = new House();
        x.sorts(1, 99, 1);
        x.sorts(2, 99, 1);
        String text = "aaaaaaaaaaaa ".repeat(6) + "bbbbbbbbbbbb ".repeat(6);
        CHECK.due("144 letters", Check.set(x, 200, text.substring(0, 155) + "\n"), 1);
        CHECK.due("width", x.line(0, 0), 177);
        CHECK.due("letters", x.line(0, 2), 144);
        CHECK.due("words", x.line(0, 1), 12);
        CHECK.due("the strip's last", x.strip(0, 154), 1);
        CHECK.due("none behind it", x.strip(0, 155), PaperHouse.NONE);
    }

    private static void anyTexts() {
        Random random = new Random(17);
        for (int run = 0; run < 100; run++) {
            Model model = new Model();
            for (int step = 0; step < 60 && model.x.room() >= 20; step++) {
                model.step(random);
            }
        }
    }

    /** The type room again, with a list of lines. */
    private static final class Model {
        private final House x = new House();
        private final int[] stock = new int[26];
        private final int[] width = new int[26];
        /** Letters above 0, spaces as 1000 and their width, in the order of reading. */
        private final List<List<Integer>> galley = new ArrayList<>();
        private final List<Integer> widths = new ArrayList<>();

        Model() {
            for (int i = 0; i < 26; i++) {
                stock[i] = 20;
                width[i] = "ilj".indexOf('a' + i) >= 0 ? 2 : "mw".indexOf('a' + i) >= 0 ? 5 : 4;
            }
        }

        void step(Random random) {
            switch (random.nextInt(5)) {
                case 0:
                    int letter = 1 + random.nextInt(26);
                    stock[letter - 1] = random.nextInt(100);
                    width[letter - 1] = 1 + random.nextInt(random.nextInt(20) + 1);
                    CHECK.due("sorts", x.sorts(letter, stock[letter - 1], width[letter - 1]), 1);
                    break;
                case 1:
                    int line = random.nextInt(galley.size() + 1);
                    CHECK.due("distribute", x.distribute(line), distribute(line));
                    break;
                default:
                    int measure = 20 + random.nextInt(random.nextInt(181) + 1);
                    String[] words = new String[1 + random.nextInt(12)];
                    for (int w = 0; w < words.length; w++) {
                        words[w] = word(random);
                    }
                    CHECK.due("set", Check.set(x, measure, String.join(" ", words) + "\n"), set(words, measure));
                    break;
            }
            compare();
        }

        private static String word(Random random) {
            StringBuilder word = new StringBuilder();
            for (int i = random.nextInt(random.nextInt(12) + 1); i >= 0; i--) {
                word.append((char) ('a' + random.nextInt(26)));
            }
            return word.toString();
        }

        private int distribute(int line) {
            if (line >= galley.size()) {
                return PaperHouse.NONE;
            }
            for (int mark : galley.get(line)) {
                if (mark < 1000) {
                    stock[mark - 1]++;
                }
            }
            galley.remove(line);
            widths.remove(line);
            return galley.size();
        }

        private int wide(String word) {
            int sum = 0;
            for (char c : word.toCharArray()) {
                sum += width[c - 'a'];
            }
            return sum;
        }

        private int set(String[] words, int measure) {
            int[] rest = stock.clone();
            for (String word : words) {
                if (wide(word) > measure) {
                    return 0;
                }
                for (char c : word.toCharArray()) {
                    rest[c - 'a']--;
                    if (rest[c - 'a'] < 0) {
                        return 0;
                    }
                }
            }
            List<List<String>> lines = new ArrayList<>();
            int filled = 0;
            for (String word : words) {
                if (lines.isEmpty() || filled + 3 + wide(word) > measure) {
                    lines.add(new ArrayList<>());
                    filled = -3;
                }
                lines.get(lines.size() - 1).add(word);
                filled += 3 + wide(word);
            }
            if (galley.size() + lines.size() > 16) {
                return 0;
            }
            System.arraycopy(rest, 0, stock, 0, 26);
            for (int i = 0; i < lines.size(); i++) {
                lay(lines.get(i), i == lines.size() - 1 ? -1 : measure);
            }
            return lines.size();
        }

        private void lay(List<String> words, int measure) {
            int gaps = words.size() - 1;
            int[] spaces = new int[gaps];
            int total = 0;
            for (String word : words) {
                total += wide(word);
            }
            for (int i = 0; i < gaps; i++) {
                spaces[i] = 3;
                total += 3;
            }
            for (int i = 0; gaps > 0 && total < measure; i = (i + 1) % gaps) {
                spaces[i]++;
                total++;
            }
            List<Integer> marks = new ArrayList<>();
            for (int w = 0; w < words.size(); w++) {
                if (w > 0) {
                    marks.add(1000 + spaces[w - 1]);
                }
                for (char c : words.get(w).toCharArray()) {
                    marks.add(c - 'a' + 1);
                }
            }
            galley.add(marks);
            widths.add(total);
        }

        private void compare() {
            CHECK.due("count(9)", x.count(9), galley.size());
            for (int i = 0; i < 26; i++) {
                CHECK.due("left", x.left(i + 1), stock[i]);
            }
            for (int line = 0; line < galley.size(); line++) {
                List<Integer> marks = galley.get(line);
                int words = 1;
                int letters = 0;
                int first = 0;
                int last = 0;
                for (int i = 0; i < marks.size(); i++) {
                    int mark = marks.get(i);
                    boolean space = mark >= 1000;
                    words += space ? 1 : 0;
                    letters += space ? 0 : 1;
                    first = space && first == 0 ? mark - 1000 : first;
                    last = space ? mark - 1000 : last;
                    CHECK.due("strip", x.strip(line, marks.size() - 1 - i),
                            space ? Math.min(40, 30 + mark - 1003) : mark);
                }
                int[] due = {widths.get(line), words, letters, first, last};
                for (int what = 0; what < due.length; what++) {
                    CHECK.due("line " + what, x.line(line, what), due[what]);
                }
            }
        }
    }
}
