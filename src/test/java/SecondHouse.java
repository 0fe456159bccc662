import java.util.ArrayList;
import java.util.Arrays;
import java.util.Comparator;
import java.util.HashMap;
import java.util.List;
import java.util.Map;
import java.util.TreeMap;

/**
 * The document once more, from its first line: each of its sentences in the plainest form, with the Java library and
 * without a thought of speed. It shares no line and no way of reckoning with the class.
 */
final class SecondHouse {
    private static final int NONE = -1;
    private static final int STATE = -3;
    private static final int FULL = -4;

    /** A text can't go on to be right at a place. */
    private static final class Wrong extends Exception {
        private static final long serialVersionUID = 1L;
        private final int place;

        Wrong(int place) {
            this.place = place;
        }
    }

    /** What reads a text: the answer of its call. */
    private interface Reading {
        int of(Text text) throws Wrong;
    }

    /** A text, read from its first byte on. */
    private static final class Text {
        private final String bytes;
        private int at = 0;

        Text(String bytes) {
            this.bytes = bytes;
        }

        boolean isAtEnd() {
            return at == bytes.length();
        }

        boolean sees(char wanted) {
            return !isAtEnd() && bytes.charAt(at) == wanted;
        }

        void take(char wanted) throws Wrong {
            if (!sees(wanted)) {
                throw new Wrong(at);
            }
            at++;
        }

        String takeAll(String pattern) {
            int from = at;
            while (!isAtEnd() && bytes.substring(at, at + 1).matches(pattern)) {
                at++;
            }
            return bytes.substring(from, at);
        }

        String word(String told) throws Wrong {
            int from = at;
            if (isAtEnd() || !bytes.substring(at, at + 1).matches("[a-z]")) {
                throw new Wrong(at);
            }
            String word = takeAll("[a-z0-9]");
            if (!Arrays.asList(told.split(" ")).contains(word)) {
                throw new Wrong(from);
            }
            return word;
        }

        int number(int low, int high) throws Wrong {
            int from = at;
            String digits = takeAll("[0-9]");
            if (digits.isEmpty()) {
                throw new Wrong(from);
            }
            if (digits.startsWith("0") && digits.length() > 1) {
                throw new Wrong(from + 1);
            }
            if (digits.length() > 6) {
                throw new Wrong(from + 6);
            }
            int value = Integer.parseInt(digits);
            if (value < low || value > high) {
                throw new Wrong(from);
            }
            return value;
        }

        int next(int low, int high) throws Wrong {
            take(' ');
            return number(low, high);
        }

        void end() throws Wrong {
            if (!isAtEnd()) {
                throw new Wrong(at);
            }
        }
    }

    private String tape = "";

    int feed(int a, int b, int c, int d, int e) {
        if (tape.length() + 20 > 1600) {
            return FULL;
        }
        for (int i : new int[] {a, b, c, d, e}) {
            for (byte one : java.nio.ByteBuffer.allocate(4).putInt(i).array()) {
                tape += (char) (one & 0xff);
            }
        }
        return tape.length();
    }

    int end(int n) {
        if (n < 0 || n > tape.length()) {
            return NONE;
        }
        tape = tape.substring(0, n);
        return n;
    }

    private int read(Reading reading) {
        Text text = new Text(tape);
        tape = "";
        try {
            return reading.of(text);
        } catch (Wrong wrong) {
            return -1000 - wrong.place;
        }
    }

    private static boolean isIn(int value, int low, int high) {
        return value >= low && value <= high;
    }

    // ---- rolls

    private int roll = 0;
    private List<Integer> widths = List.of();
    private List<List<Integer>> plan = List.of();

    int cut() {
        return read(t -> {
            t.word("roll");
            int newRoll = t.next(50, 400);
            int knives = t.next(1, 6);
            t.take('\n');
            List<Integer> newWidths = new ArrayList<>();
            List<Integer> wanted = new ArrayList<>();
            int all = 0;
            do {
                t.word("cut");
                int from = t.at + 1;
                int width = t.next(10, newRoll);
                if (newWidths.contains(width)) {
                    throw new Wrong(from);
                }
                from = t.at + 1;
                int many = t.next(1, 9);
                all += many;
                if (all > 16) {
                    throw new Wrong(from);
                }
                t.take('\n');
                newWidths.add(width);
                wanted.add(many);
            } while (newWidths.size() < 4 && !t.isAtEnd());
            t.end();
            roll = newRoll;
            widths = newWidths;
            plan = new Planner(newRoll, knives, newWidths).best(wanted);
            return plan.size();
        });
    }

    private static int compareRows(List<Integer> one, List<Integer> other) {
        for (int i = 0; i < one.size(); i++) {
            if (!one.get(i).equals(other.get(i))) {
                return one.get(i) - other.get(i);
            }
        }
        return 0;
    }

    private static int widthOf(List<Integer> pattern, List<Integer> widths) {
        int sum = 0;
        for (int i = 0; i < widths.size(); i++) {
            sum += pattern.get(i) * widths.get(i);
        }
        return sum;
    }

    private static int sum(List<Integer> row) {
        return row.stream().mapToInt(Integer::intValue).sum();
    }

    /** Every PATTERN is tried ahead of the best plan for what is left; the plans are ordered, then compared. */
    private static final class Planner {
        private final int roll;
        private final int knives;
        private final List<Integer> widths;
        private final Map<List<Integer>, List<List<Integer>>> known = new HashMap<>();

        Planner(int roll, int knives, List<Integer> widths) {
            this.roll = roll;
            this.knives = knives;
            this.widths = widths;
        }

        List<List<Integer>> best(List<Integer> wanted) {
            if (sum(wanted) == 0) {
                return List.of();
            }
            List<List<Integer>> best = known.get(wanted);
            if (best != null) {
                return best;
            }
            for (List<Integer> pattern : parts(wanted, 0)) {
                if (sum(pattern) >= 1 && sum(pattern) <= knives && widthOf(pattern, widths) <= roll) {
                    List<List<Integer>> plan = new ArrayList<>(best(minus(wanted, pattern)));
                    plan.add(pattern);
                    plan.sort((a, b) -> compareRows(b, a));
                    if (best == null || isBetter(plan, best)) {
                        best = plan;
                    }
                }
            }
            known.put(wanted, best);
            return best;
        }

        private static boolean isBetter(List<List<Integer>> plan, List<List<Integer>> best) {
            if (plan.size() != best.size()) {
                return plan.size() < best.size();
            }
            for (int i = 0; i < plan.size(); i++) {
                int difference = compareRows(plan.get(i), best.get(i));
                if (difference != 0) {
                    return difference > 0;
                }
            }
            return false;
        }

        private static List<Integer> minus(List<Integer> wanted, List<Integer> pattern) {
            List<Integer> rest = new ArrayList<>();
            for (int i = 0; i < wanted.size(); i++) {
                rest.add(wanted.get(i) - pattern.get(i));
            }
            return rest;
        }

        private static List<List<Integer>> parts(List<Integer> wanted, int from) {
            if (from == wanted.size()) {
                return List.of(List.of());
            }
            List<List<Integer>> all = new ArrayList<>();
            for (List<Integer> tail : parts(wanted, from + 1)) {
                for (int n = 0; n <= wanted.get(from); n++) {
                    List<Integer> part = new ArrayList<>(List.of(n));
                    part.addAll(tail);
                    all.add(part);
                }
            }
            return all;
        }
    }

    int pattern(int i, int k) {
        if (!isIn(i, 0, plan.size() - 1) || !isIn(k, -1, widths.size() - 1)) {
            return NONE;
        }
        return k == -1 ? roll - widthOf(plan.get(i), widths) : plan.get(i).get(k);
    }

    // ---- folding

    /** A PANEL as it lies now: where, how deep, and how often it was turned over, of these by t and b. */
    private static final class Panel {
        private final int row;
        private final int column;
        private int nowRow;
        private int nowColumn;
        private int depth = 0;
        private int turns = 0;
        private int tumbles = 0;

        Panel(int row, int column) {
            this.row = row;
            this.column = column;
            nowRow = row;
            nowColumn = column;
        }
    }

    /** A LEAF of the BOOK: which SHEET, which PANEL. */
    private static final class Leaf {
        private final int sheet;
        private final Panel panel;

        Leaf(int sheet, Panel panel) {
            this.sheet = sheet;
            this.panel = panel;
        }

        /** Of its upper (0) or lower (1) side: 0 FRONT, 1 BACK. */
        int sideOf(int lower) {
            return panel.turns % 2 == 1 ? 1 - lower : lower;
        }
    }

    private int rows = 1;
    private int columns = 2;
    private List<Panel> leaves = folded(1, 2, "l");
    private int sheets = 1;
    private int way = 0;
    private int caliper = 1;

    private static List<Panel> folded(int rows, int columns, String letters) {
        List<Panel> panels = new ArrayList<>();
        for (int i = 0; i < rows * columns; i++) {
            panels.add(new Panel(i / columns, i % columns));
        }
        int high = rows;
        int wide = columns;
        int thick = 1;
        for (char letter : letters.toCharArray()) {
            for (Panel p : panels) {
                boolean isLeft = p.nowColumn < wide / 2;
                boolean isUpper = p.nowRow < high / 2;
                boolean goesOver = letter == 'l' && isLeft || letter == 'r' && !isLeft
                        || letter == 't' && isUpper || letter == 'b' && !isUpper;
                if (goesOver) {
                    p.turns++;
                    p.depth = thick - 1 - p.depth;
                    if (letter == 'l' || letter == 'r') {
                        p.nowColumn = wide - 1 - p.nowColumn;
                    } else {
                        p.nowRow = high - 1 - p.nowRow;
                        p.tumbles++;
                    }
                } else {
                    p.depth += thick;
                }
                p.nowColumn -= letter == 'l' ? wide / 2 : 0;
                p.nowRow -= letter == 't' ? high / 2 : 0;
            }
            wide = letter == 'l' || letter == 'r' ? wide / 2 : wide;
            high = letter == 't' || letter == 'b' ? high / 2 : high;
            thick *= 2;
        }
        panels.sort(Comparator.comparingInt(p -> p.depth));
        return panels;
    }

    private static int halvings(int panels) {
        return Integer.numberOfTrailingZeros(panels);
    }

    private static int side(Text t) throws Wrong {
        int from = t.at + 1;
        int panels = t.next(1, 8);
        if (Integer.bitCount(panels) != 1) {
            throw new Wrong(from);
        }
        return panels;
    }

    int fold() {
        return read(t -> {
            t.word("sheet");
            int newRows = side(t);
            int newColumns = side(t);
            t.take('\n');
            t.word("fold");
            t.take(' ');
            StringBuilder letters = new StringBuilder();
            int across = 0;
            int down = 0;
            while (across < halvings(newColumns) || down < halvings(newRows)) {
                if (across < halvings(newColumns) && (t.sees('l') || t.sees('r'))) {
                    across++;
                } else if (down < halvings(newRows) && (t.sees('t') || t.sees('b'))) {
                    down++;
                } else {
                    throw new Wrong(t.at);
                }
                letters.append(t.bytes.charAt(t.at));
                t.at++;
            }
            t.take('\n');
            t.end();
            rows = newRows;
            columns = newColumns;
            leaves = folded(rows, columns, letters.toString());
            return leaves.size();
        });
    }

    /** NESTED: the first SHEET's front half, then all the others within, then its other half. */
    private List<Leaf> book() {
        List<Leaf> book = new ArrayList<>();
        if (way == 0) {
            for (int s = 0; s < sheets; s++) {
                for (Panel p : leaves) {
                    book.add(new Leaf(s, p));
                }
            }
            return book;
        }
        for (int s = sheets - 1; s >= 0; s--) {
            List<Leaf> outer = new ArrayList<>();
            for (int k = 0; k < leaves.size() / 2; k++) {
                outer.add(new Leaf(s, leaves.get(k)));
            }
            outer.addAll(book);
            for (int k = leaves.size() / 2; k < leaves.size(); k++) {
                outer.add(new Leaf(s, leaves.get(k)));
            }
            book = outer;
        }
        return book;
    }

    int book(int newSheets, int newWay, int newCaliper) {
        if (!isIn(newSheets, 1, 8) || !isIn(newWay, 0, 1) || !isIn(newCaliper, 1, 99)) {
            return NONE;
        }
        sheets = newSheets;
        way = newWay;
        caliper = newCaliper;
        return 2 * sheets * leaves.size();
    }

    int page(int s, int side, int row, int column) {
        List<Leaf> book = book();
        for (int page = 0; page < 2 * book.size(); page++) {
            Leaf leaf = book.get(page / 2);
            if (leaf.sheet == s && leaf.sideOf(page % 2) == side && leaf.panel.row == row
                    && leaf.panel.column == column) {
                return page + (leaf.panel.tumbles % 2 == 1 ? 1000 : 0);
            }
        }
        return NONE;
    }

    int where(int page, int what) {
        List<Leaf> book = book();
        if (!isIn(page, 0, 2 * book.size() - 1) || !isIn(what, 0, 4)) {
            return NONE;
        }
        int place = page / 2;
        Leaf leaf = book.get(place);
        return new int[] {leaf.sheet, leaf.sideOf(page % 2), leaf.panel.row, leaf.panel.column,
            caliper * Math.min(place, book.size() - 1 - place)}[what];
    }

    // ---- plates

    private final int[][][] pages = new int[32][8][8];

    int draw(int page) {
        if (!isIn(page, 0, 31)) {
            return NONE;
        }
        return read(t -> {
            int[][] dots = new int[8][8];
            int lines = 0;
            do {
                if (t.word("box line").equals("box")) {
                    int x = t.next(0, 7);
                    int y = t.next(0, 7);
                    int w = t.next(1, 8);
                    int h = t.next(1, 8);
                    fill(dots, x, y, x + w, y + h, t.next(0, 16));
                } else {
                    int x = t.next(0, 7);
                    int y = t.next(0, 7);
                    int x2 = t.next(0, 7);
                    int from = t.at + 1;
                    int y2 = t.next(0, 7);
                    if (x != x2 && y != y2) {
                        throw new Wrong(from);
                    }
                    fill(dots, Math.min(x, x2), Math.min(y, y2), Math.max(x, x2) + 1, Math.max(y, y2) + 1,
                            t.next(0, 16));
                }
                t.take('\n');
                lines++;
            } while (lines < 40 && !t.isAtEnd());
            t.end();
            pages[page] = dots;
            return Arrays.stream(dots).flatMapToInt(Arrays::stream).sum();
        });
    }

    private static void fill(int[][] dots, int left, int top, int right, int bottom, int tone) {
        for (int x = left; x < Math.min(8, right); x++) {
            for (int y = top; y < Math.min(8, bottom); y++) {
                dots[y][x] = tone;
            }
        }
    }

    private static final int[][] THRESHOLDS = {{0, 8, 2, 10}, {12, 4, 14, 6}, {3, 11, 1, 9}, {15, 7, 13, 5}};

    private boolean hasSide(int s, int side) {
        return isIn(s, 0, sheets - 1) && isIn(side, 0, 1);
    }

    /** The whole PLATE, [y][x]. */
    private int[][] plate(int s, int side) {
        int[][] plate = new int[rows * 8][columns * 8];
        for (int r = 0; r < rows; r++) {
            for (int c = 0; c < columns; c++) {
                int told = page(s, side, r, c);
                boolean isTurned = tumbledAt(r, c);
                int page = isTurned ? told - 1000 : told;
                int left = 8 * (side == 1 ? columns - 1 - c : c);
                for (int dy = 0; dy < 8; dy++) {
                    for (int dx = 0; dx < 8; dx++) {
                        int y = 8 * r + (isTurned ? 7 - dy : dy);
                        int x = left + (isTurned ? 7 - dx : dx);
                        int tone = page < 32 ? pages[page][dy][dx] : 0;
                        plate[y][x] = tone > THRESHOLDS[y % 4][x % 4] ? 1 : 0;
                    }
                }
            }
        }
        return plate;
    }

    private boolean tumbledAt(int r, int c) {
        return leaves.stream().anyMatch(p -> p.row == r && p.column == c && p.tumbles % 2 == 1);
    }

    int point(int s, int side, int x, int y) {
        if (!hasSide(s, side) || !isIn(x, 0, columns * 8 - 1) || !isIn(y, 0, rows * 8 - 1)) {
            return NONE;
        }
        return plate(s, side)[y][x];
    }

    // ---- the press

    private final long[] keys = new long[8];
    private int[] coverage = new int[0];
    private int[] shares = new int[0];
    private long[][] films = new long[0][];
    private long aim = 500;
    private long tolerance = 50;
    private int spoiled = 0;
    private List<Integer> numbers = new ArrayList<>();
    private int goodOnes = 0;

    int mount(int s, int side) {
        if (!hasSide(s, side)) {
            return NONE;
        }
        int[][] plate = plate(s, side);
        coverage = new int[columns];
        shares = new int[columns];
        films = new long[columns][4];
        for (int zone = 0; zone < columns; zone++) {
            for (int[] row : plate) {
                coverage[zone] += Arrays.stream(row, zone * 8, zone * 8 + 8).sum();
            }
            shares[zone] = coverage[zone] / rows;
        }
        numbers = new ArrayList<>();
        goodOnes = 0;
        return columns;
    }

    int key(int zone, int v) {
        if (!isIn(zone, 0, 7) || !isIn(v, 0, 255)) {
            return NONE;
        }
        int before = (int) keys[zone];
        keys[zone] = v;
        return before;
    }

    int aim(int density, int newTolerance, int newSpoiled) {
        if (!isIn(density, 0, 4000) || !isIn(newTolerance, 0, 400) || !isIn(newSpoiled, 0, 99)) {
            return NONE;
        }
        aim = density;
        tolerance = newTolerance;
        spoiled = newSpoiled;
        return 1;
    }

    /** Of a row of A, B, DENSITY and what has gone to paper: one sheet more. */
    private static void sheet(long[] film, long key, long share) {
        film[0] += 16 * key;
        long moved = Math.floorDiv(film[0] - film[1], 3L);
        film[0] -= moved;
        film[1] += moved;
        film[2] = Math.floorDiv(film[1] * share, 512L);
        film[1] -= film[2];
        film[3] += film[2];
    }

    int settled(int zone) {
        if (!isIn(zone, 0, coverage.length - 1)) {
            return NONE;
        }
        if (coverage[zone] == 0) {
            return 0;
        }
        for (int key = 0; key <= 255; key++) {
            long[] film = new long[4];
            for (int i = 0; i < 40; i++) {
                sheet(film, key, shares[zone]);
            }
            if (film[2] >= aim) {
                return key;
            }
        }
        return 255;
    }

    private void printOne() {
        boolean isGood = spoiled == 0 || (numbers.size() + 1) % spoiled != 0;
        for (int zone = 0; zone < films.length; zone++) {
            sheet(films[zone], keys[zone], shares[zone]);
            isGood &= coverage[zone] == 0 || Math.abs(films[zone][2] - aim) <= tolerance;
        }
        goodOnes += isGood ? 1 : 0;
        numbers.add(isGood ? goodOnes : 0);
    }

    int print(int n) {
        if (!isIn(n, 0, 500)) {
            return NONE;
        }
        if (coverage.length == 0) {
            return STATE;
        }
        if (numbers.size() + n > 4000) {
            return FULL;
        }
        int before = goodOnes;
        for (int i = 0; i < n; i++) {
            printOne();
        }
        return goodOnes - before;
    }

    int good(int n) {
        if (!isIn(n, 1, 200)) {
            return NONE;
        }
        if (coverage.length == 0) {
            return STATE;
        }
        int goodBefore = goodOnes;
        int before = numbers.size();
        while (goodOnes - goodBefore < n && numbers.size() - before < 500 && numbers.size() < 4000) {
            printOne();
        }
        return numbers.size() - before;
    }

    int zone(int zone, int what) {
        if (!isIn(zone, 0, coverage.length - 1) || !isIn(what, 0, 5)) {
            return NONE;
        }
        if (what == 0) {
            return coverage[zone];
        }
        return (int) (what == 5 ? keys[zone] : films[zone][what - 1]);
    }

    int number(int k) {
        return isIn(k, 1, numbers.size()) ? numbers.get(k - 1) : NONE;
    }

    // ---- type

    /** A line of the GALLEY: its words, its spaces, and how wide it is. */
    private static final class SetLine {
        private final List<String> words = new ArrayList<>();
        private final List<Integer> spaces = new ArrayList<>();
        private int width;
    }

    private final int[] many = new int[26];
    private final int[] wide = new int[26];
    private final List<SetLine> galley = new ArrayList<>();

    SecondHouse() {
        Arrays.fill(many, 20);
        for (char c = 'a'; c <= 'z'; c++) {
            wide[c - 'a'] = "ilj".indexOf(c) >= 0 ? 2 : "mw".indexOf(c) >= 0 ? 5 : 4;
        }
    }

    int sorts(int letter, int newMany, int newWide) {
        if (!isIn(letter, 1, 26) || !isIn(newMany, 0, 99) || !isIn(newWide, 1, 20)) {
            return NONE;
        }
        many[letter - 1] = newMany;
        wide[letter - 1] = newWide;
        return 1;
    }

    private int widthOf(String word) {
        return word.chars().map(c -> wide[c - 'a']).sum();
    }

    int set(int measure) {
        if (!isIn(measure, 20, 200)) {
            return NONE;
        }
        return read(t -> {
            List<String> words = new ArrayList<>();
            do {
                if (!words.isEmpty()) {
                    t.take(' ');
                }
                int from = t.at;
                String word = t.takeAll("[a-z]");
                if (word.isEmpty() || word.length() > 12) {
                    throw new Wrong(from + word.length() - Math.max(0, word.length() - 12));
                }
                words.add(word);
            } while (words.size() < 12 && t.sees(' '));
            t.take('\n');
            t.end();
            return setWords(words, measure);
        });
    }

    private int setWords(List<String> words, int measure) {
        int[] rest = many.clone();
        String.join("", words).chars().forEach(c -> rest[c - 'a']--);
        if (Arrays.stream(rest).anyMatch(n -> n < 0) || words.stream().anyMatch(w -> widthOf(w) > measure)) {
            return 0;
        }
        List<SetLine> lines = new ArrayList<>();
        for (String word : words) {
            SetLine last = lines.isEmpty() ? null : lines.get(lines.size() - 1);
            if (last == null || last.width + 3 + widthOf(word) > measure) {
                last = new SetLine();
                lines.add(last);
            } else {
                last.spaces.add(3);
                last.width += 3;
            }
            last.words.add(word);
            last.width += widthOf(word);
        }
        if (galley.size() + lines.size() > 16) {
            return 0;
        }
        for (SetLine line : lines.subList(0, lines.size() - 1)) {
            for (int i = 0; line.width < measure && !line.spaces.isEmpty(); i = (i + 1) % line.spaces.size()) {
                line.spaces.set(i, line.spaces.get(i) + 1);
                line.width++;
            }
        }
        galley.addAll(lines);
        System.arraycopy(rest, 0, many, 0, 26);
        return lines.size();
    }

    int distribute(int line) {
        if (!isIn(line, 0, galley.size() - 1)) {
            return NONE;
        }
        String.join("", galley.remove(line).words).chars().forEach(c -> many[c - 'a']++);
        return galley.size();
    }

    int line(int line, int what) {
        if (!isIn(line, 0, galley.size() - 1) || !isIn(what, 0, 4)) {
            return NONE;
        }
        SetLine l = galley.get(line);
        int last = l.spaces.size() - 1;
        return new int[] {l.width, l.words.size(), String.join("", l.words).length(), last < 0 ? 0 : l.spaces.get(0),
            last < 0 ? 0 : l.spaces.get(last)}[what];
    }

    int strip(int line, int i) {
        if (!isIn(line, 0, galley.size() - 1)) {
            return NONE;
        }
        List<Integer> strip = new ArrayList<>();
        SetLine l = galley.get(line);
        for (int w = 0; w < l.words.size(); w++) {
            if (w > 0) {
                strip.add(0, Math.min(40, 30 + l.spaces.get(w - 1) - 3));
            }
            l.words.get(w).chars().forEach(c -> strip.add(0, c - 'a' + 1));
        }
        return isIn(i, 0, strip.size() - 1) ? strip.get(i) : NONE;
    }

    int left(int letter) {
        return isIn(letter, 1, 26) ? many[letter - 1] : NONE;
    }

    // ---- piles

    private List<int[]> pieces = List.of();

    int pile(int w, int h) {
        if (!isIn(w, 1, 999) || !isIn(h, 1, 999)) {
            return NONE;
        }
        return read(t -> {
            List<int[]> cut = new ArrayList<>();
            cut.add(new int[] {0, 0, w, h});
            while (cut.size() < 31 && !t.isAtEnd()) {
                int axis = t.word("x y").equals("x") ? 0 : 1;
                int[] first = cut.get(t.next(0, cut.size() - 1));
                int far = t.next(1, first[2 + axis] - 1);
                t.take('\n');
                int[] second = first.clone();
                second[axis] += far;
                second[2 + axis] -= far;
                first[2 + axis] = far;
                cut.add(second);
            }
            t.end();
            pieces = cut;
            return pieces.size();
        });
    }

    int piece(int k, int what) {
        return isIn(k, 0, pieces.size() - 1) && isIn(what, 0, 3) ? pieces.get(k)[what] : NONE;
    }

    int on(int x, int y) {
        for (int[] p : pieces) {
            if (isIn(x, p[0], p[0] + p[2] - 1) && isIn(y, p[1], p[1] + p[3] - 1)) {
                return pieces.indexOf(p);
            }
        }
        return NONE;
    }

    int gather() {
        return read(t -> {
            List<Integer> marks = new ArrayList<>();
            marks.add(t.number(1, 8));
            while (marks.size() < 20 && t.sees(' ')) {
                marks.add(t.next(1, 8));
            }
            t.take('\n');
            t.end();
            for (int place = 1; place <= Math.max(sheets, marks.size()); place++) {
                if (place > sheets || place > marks.size() || marks.get(place - 1) != place) {
                    return place;
                }
            }
            return 0;
        });
    }

    // ---- letters

    /** The LETTERS as they came, "CODE NAME". */
    private final List<String> came = new ArrayList<>();
    private int least = 4;
    private int most = 10;

    /** A blank is less than every byte of a NAME, so these texts' order is that of THE LIST. */
    private List<String> list() {
        List<String> list = new ArrayList<>(came);
        list.sort(Comparator.naturalOrder());
        return list;
    }

    int letters() {
        return read(t -> {
            List<String> then = new ArrayList<>(came);
            int lines = 0;
            do {
                int from = t.at;
                String code = t.takeAll("[0-9]");
                if (code.length() != 5) {
                    throw new Wrong(from + Math.min(5, code.length()));
                }
                t.take(' ');
                from = t.at;
                if (t.takeAll("[a-z0-9]").length() > 8 && Character.isLetter(t.bytes.charAt(from))) {
                    throw new Wrong(from + 8);
                }
                String name = t.bytes.substring(from, t.at);
                if (name.isEmpty() || Character.isDigit(name.charAt(0))) {
                    throw new Wrong(from);
                }
                t.take('\n');
                if (!then.contains(code + " " + name)) {
                    then.add(code + " " + name);
                }
                lines++;
            } while (lines < 40 && !t.isAtEnd());
            t.end();
            if (then.size() > 120) {
                return FULL;
            }
            came.clear();
            came.addAll(then);
            return came.size();
        });
    }

    /** A BUNDLE: its kind, and its LETTERS. */
    private static final class Bundle {
        private final int kind;
        private final List<String> letters;

        Bundle(int kind, List<String> letters) {
            this.kind = kind;
            this.letters = letters;
        }
    }

    private List<Bundle> bundles() {
        List<Bundle> bundles = new ArrayList<>();
        List<String> rest = list();
        for (int kind = 0; kind <= 2; kind++) {
            int digits = new int[] {5, 3, 0}[kind];
            Map<String, List<String>> groups = new TreeMap<>();
            rest.forEach(l -> groups.computeIfAbsent(l.substring(0, digits), g -> new ArrayList<>()).add(l));
            for (List<String> group : groups.values()) {
                while (group.size() >= most) {
                    bundles.add(new Bundle(kind, new ArrayList<>(group.subList(0, most))));
                    group.subList(0, most).clear();
                }
                if (group.size() >= (kind == 2 ? 1 : least)) {
                    bundles.add(new Bundle(kind, new ArrayList<>(group)));
                    group.clear();
                }
            }
            rest = new ArrayList<>();
            for (List<String> group : groups.values()) {
                rest.addAll(group);
            }
        }
        return bundles;
    }

    int bundles(int newLeast, int newMost) {
        if (!isIn(newLeast, 1, 30) || !isIn(newMost, 1, 30) || newLeast > newMost) {
            return NONE;
        }
        least = newLeast;
        most = newMost;
        return bundles().size();
    }

    int letter(int i, int what) {
        if (!isIn(i, 0, came.size() - 1)) {
            return NONE;
        }
        String letter = list().get(i);
        String name = letter.substring(6);
        if (what == 0) {
            return Integer.parseInt(letter.substring(0, 5));
        }
        if (what == 1) {
            return name.length();
        }
        if (what == 2) {
            List<Bundle> bundles = bundles();
            for (Bundle b : bundles) {
                if (b.letters.contains(letter)) {
                    return bundles.indexOf(b);
                }
            }
        }
        if (what == 3) {
            return came.indexOf(letter);
        }
        return what >= 10 && isIn(what - 10, 0, name.length() - 1) ? name.charAt(what - 10) : NONE;
    }

    int bundle(int k, int what) {
        List<Bundle> bundles = bundles();
        if (!isIn(k, 0, bundles.size() - 1) || !isIn(what, 0, 2)) {
            return NONE;
        }
        Bundle b = bundles.get(k);
        return new int[] {b.kind, b.letters.size(), list().indexOf(b.letters.get(0))}[what];
    }

    int strike(int i) {
        if (!isIn(i, 0, came.size() - 1)) {
            return NONE;
        }
        came.remove(list().get(i));
        return came.size();
    }

    // ---- jobs

    private final List<int[]> jobs = new ArrayList<>();
    private int change = 5;
    private int dry = 0;

    int job(int colour, int print, int bind, int due) {
        if (!isIn(colour, 0, 3) || !isIn(print, 1, 99) || !isIn(bind, 1, 99) || !isIn(due, 0, 999)) {
            return NONE;
        }
        if (jobs.size() == 6) {
            return FULL;
        }
        jobs.add(new int[] {colour, print, bind, due});
        return jobs.size() - 1;
    }

    int times(int newChange, int newDry) {
        if (!isIn(newChange, 0, 50) || !isIn(newDry, 0, 50)) {
            return NONE;
        }
        change = newChange;
        dry = newDry;
        return 1;
    }

    int drop(int job) {
        if (!isIn(job, 0, jobs.size() - 1)) {
            return NONE;
        }
        jobs.remove(job);
        return jobs.size();
    }

    /** An ORDER, and what comes of it: LATE in all, the end, changes, and of each JOB what when() tells. */
    private static final class Order {
        private final List<Integer> row;
        private final Map<Integer, int[]> told = new HashMap<>();
        private int late = 0;
        private int end = 0;
        private int changes = 0;

        Order(List<Integer> row) {
            this.row = row;
        }
    }

    private Order tryOut(List<Integer> row) {
        Order order = new Order(row);
        int free = 0;
        for (int k = 0; k < row.size(); k++) {
            int[] j = jobs.get(row.get(k));
            if (k > 0 && jobs.get(row.get(k - 1))[0] != j[0]) {
                order.changes++;
                free += change;
            }
            int printEnd = free + j[1];
            int bindBegin = Math.max(order.end, printEnd + dry);
            int late = Math.max(0, bindBegin + j[2] - j[3]);
            order.told.put(row.get(k), new int[] {free, printEnd, bindBegin, bindBegin + j[2], late});
            free = printEnd;
            order.end = bindBegin + j[2];
            order.late += late;
        }
        return order;
    }

    private static void permute(List<Integer> begun, int size, List<List<Integer>> all) {
        if (begun.size() == size) {
            all.add(new ArrayList<>(begun));
        }
        for (int i = 0; i < size; i++) {
            if (!begun.contains(i)) {
                begun.add(i);
                permute(begun, size, all);
                begun.remove(begun.size() - 1);
            }
        }
    }

    private Order best() {
        List<List<Integer>> all = new ArrayList<>();
        permute(new ArrayList<>(), jobs.size(), all);
        return all.stream().map(this::tryOut).min(Comparator.<Order>comparingInt(o -> o.late)
                .thenComparingInt(o -> o.end).thenComparing((a, b) -> compareRows(a.row, b.row))).orElseThrow();
    }

    int order(int k) {
        return isIn(k, 0, jobs.size() - 1) ? best().row.get(k) : NONE;
    }

    int when(int job, int what) {
        return isIn(job, 0, jobs.size() - 1) && isIn(what, 0, 4) ? best().told.get(job)[what] : NONE;
    }

    int count(int what) {
        switch (what) {
            case 0: return best().late;
            case 1: return best().end;
            case 2: return best().changes;
            case 3: return plan.size();
            case 4: return plan.stream().mapToInt(p -> roll - widthOf(p, widths)).sum();
            case 5: return leaves.size();
            case 6: return sheets;
            case 7: return numbers.size();
            case 8: return goodOnes;
            case 9: return galley.size();
            case 10: return pieces.size();
            case 11: return came.size();
            case 12: return bundles().size();
            case 13: return jobs.size();
            default: return NONE;
        }
    }

    // ---- for those that ask

    /** Of a call the ranges of arguments, low and high, of which there is something now; else those given. */
    int[] thereIs(String call, int[] other) {
        switch (call) {
            case "pattern": return new int[] {0, plan.size() - 1, -1, widths.size() - 1};
            case "book": return new int[] {1, 8, 0, 1, 1, 99};
            case "page": return new int[] {0, sheets - 1, 0, 1, 0, rows - 1, 0, columns - 1};
            case "where": return new int[] {0, sheets * leaves.size() * 2 - 1, 0, 4};
            case "draw": return new int[] {0, Math.min(32, sheets * leaves.size() * 2) - 1};
            case "point": return new int[] {0, sheets - 1, 0, 1, 0, columns * 8 - 1, 0, rows * 8 - 1};
            case "mount": return new int[] {0, sheets - 1, 0, 1};
            case "key": return new int[] {0, Math.max(1, coverage.length) - 1, 0, 255};
            case "aim": return new int[] {0, 1500, 0, 400, 0, 99};
            case "settled": return new int[] {0, coverage.length - 1};
            case "zone": return new int[] {0, coverage.length - 1, 0, 5};
            case "number": return new int[] {1, numbers.size()};
            case "sorts": return new int[] {1, 26, 0, 99, 1, 20};
            case "distribute": return new int[] {0, galley.size() - 1};
            case "line": return new int[] {0, galley.size() - 1, 0, 4};
            case "strip": return new int[] {0, galley.size() - 1, 0, 30};
            case "piece": return new int[] {0, pieces.size() - 1, 0, 3};
            case "letter": return new int[] {0, came.size() - 1, 0, 14};
            case "bundle": return new int[] {0, bundles().size() - 1, 0, 2};
            case "strike": return new int[] {0, came.size() - 1};
            case "job": return new int[] {0, 3, 1, 99, 1, 99, 0, 400};
            case "times": return new int[] {0, 50, 0, 50};
            case "drop": return new int[] {0, jobs.size() - 1};
            case "order": return new int[] {0, jobs.size() - 1};
            case "when": return new int[] {0, jobs.size() - 1, 0, 4};
            default: return other;
        }
    }
}
