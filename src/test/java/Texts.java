import java.util.ArrayList;
import java.util.List;
import java.util.Random;

/** Texts of each kind at random: most are right, the others have a byte too many, too few or another one. */
final class Texts {
    private static final String BYTES = "0123456789 \nabcdefghijklmnopqrstuvwxyzXY-\t~";
    private final Random random;

    Texts(Random random) {
        this.random = random;
    }

    /** From low to high, the ends more often. */
    int among(int low, int high) {
        switch (random.nextInt(8)) {
            case 0: return low;
            case 1: return high;
            default: return low + random.nextInt(high - low + 1);
        }
    }

    /** From low to high, and now and then just out of it. */
    private int near(int low, int high) {
        switch (random.nextInt(120)) {
            case 0: return Math.max(0, low - 1);
            case 1: return high + 1;
            default: return among(low, high);
        }
    }

    /** Mostly from low to high; not often up to many more. */
    private int lines(int low, int high, int many) {
        return random.nextInt(30) == 0 ? among(low, many) : among(low, high);
    }

    String of(String call, int w, int h) {
        String text = right(call, w, h);
        return random.nextInt(5) == 0 ? spoiled(text) : text;
    }

    private String right(String call, int w, int h) {
        switch (call) {
            case "cut": return cut();
            case "fold": return fold();
            case "draw": return draw();
            case "set": return set();
            case "pile": return pile(w, h);
            case "gather": return gather();
            default: return letters();
        }
    }

    private String spoiled(String text) {
        StringBuilder spoiled = new StringBuilder(text);
        for (int i = random.nextInt(2); i >= 0; i--) {
            int at = random.nextInt(spoiled.length() + 1);
            char other = BYTES.charAt(random.nextInt(BYTES.length()));
            switch (random.nextInt(5)) {
                case 0: spoiled.insert(at, other); break;
                case 1: spoiled.setLength(at); break;
                case 2: spoiled.append(other); break;
                case 3: spoiled.insert(at, random.nextInt(10_000_000)); break;
                default:
                    if (at < spoiled.length()) {
                        spoiled.setCharAt(at, other);
                    }
            }
        }
        return spoiled.toString();
    }

    private String cut() {
        int roll = random.nextInt(3) == 0 ? among(50, 100) : near(50, 400);
        StringBuilder text = new StringBuilder("roll " + roll + " " + near(1, 6) + "\n");
        int lines = lines(1, 4, 6);
        for (int i = 0; i < lines; i++) {
            int width = random.nextInt(3) == 0 ? among(10, roll) : among(10, Math.max(10, roll / 2));
            text.append("cut ").append(width).append(' ').append(near(1, Math.max(1, 16 / lines))).append('\n');
        }
        return text.toString();
    }

    private String fold() {
        int down = random.nextInt(4);
        int across = random.nextInt(4);
        List<Character> letters = new ArrayList<>();
        for (int i = 0; i < down; i++) {
            letters.add("tb".charAt(random.nextInt(2)));
        }
        for (int i = 0; i < across; i++) {
            letters.add("lr".charAt(random.nextInt(2)));
        }
        java.util.Collections.shuffle(letters, random);
        StringBuilder text = new StringBuilder("sheet " + (1 << down) + " " + (1 << across) + "\nfold ");
        letters.forEach(text::append);
        return text.append('\n').toString();
    }

    private String draw() {
        StringBuilder text = new StringBuilder();
        for (int i = lines(1, 6, 41); i > 0; i--) {
            int x = near(0, 7);
            int y = near(0, 7);
            if (random.nextBoolean()) {
                text.append("box ").append(x).append(' ').append(y).append(' ').append(near(1, 8)).append(' ')
                        .append(near(1, 8));
            } else {
                boolean level = random.nextBoolean();
                text.append("line ").append(x).append(' ').append(y).append(' ').append(level ? near(0, 7) : x)
                        .append(' ').append(level ? y : near(0, 7));
            }
            text.append(' ').append(near(0, 16)).append('\n');
        }
        return text.toString();
    }

    private String set() {
        StringBuilder text = new StringBuilder();
        for (int i = lines(1, 12, 13); i > 0; i--) {
            for (int k = random.nextInt(3) == 0 ? near(1, 12) : among(1, 6); k > 0; k--) {
                text.append((char) ('a' + random.nextInt(26)));
            }
            text.append(i == 1 ? '\n' : ' ');
        }
        return text.toString();
    }

    private String pile(int w, int h) {
        StringBuilder text = new StringBuilder();
        List<int[]> sizes = new ArrayList<>();
        sizes.add(new int[] {w, h});
        for (int i = lines(0, 8, 31); i > 0; i--) {
            int axis = random.nextInt(2);
            int k = random.nextInt(sizes.size());
            int[] size = sizes.get(k);
            if (size[axis] > 1) {
                int far = among(1, size[axis] - 1);
                int[] other = size.clone();
                other[axis] -= far;
                size[axis] = far;
                sizes.add(other);
                text.append(axis == 0 ? "x " : "y ").append(k).append(' ').append(far).append('\n');
            }
        }
        return text.toString();
    }

    private String gather() {
        StringBuilder text = new StringBuilder();
        int marks = lines(1, 8, 21);
        for (int i = 1; i <= marks; i++) {
            text.append(random.nextInt(12) == 0 ? near(1, 8) : Math.min(8, i)).append(i == marks ? '\n' : ' ');
        }
        return text.toString();
    }

    private String letters() {
        StringBuilder text = new StringBuilder();
        int codes = among(1, 40);
        for (int i = lines(1, 20, 41); i > 0; i--) {
            int code = random.nextInt(codes) * 37 % 40;
            text.append(random.nextInt(6) == 0 ? "00" : "73").append(code / 8).append(code % 8 / 4).append(code % 4)
                    .append(' ').append((char) ('a' + random.nextInt(26)));
            for (int k = random.nextInt(3) == 0 ? among(0, 7) : 0; k > 0; k--) {
                text.append("01yz".charAt(random.nextInt(4)));
            }
            text.append('\n');
        }
        return text.toString();
    }
}
