import java.util.Random;

/** Promises 26 to 29, and count 10 of promise 40. */
public final class PilesTest {
    private static final Check CHECK = new Check();

    public static void main(String[] args) {
        wrongPrograms();
        pileLimits();
        manyCuts();
        wrongChangesNothing();
        anyPiles();
        wrongCopies();
        copies();
        CHECK.finish();
    }

    private static void wrong(String text, int place) {
        House x = new House();
        CHECK.due("pile of " + text.replace("\n", "/"), Check.pile(x, 100, 50, text), -1000 - place);
        CHECK.due("no pile", x.count(10), 0);
    }

    private static void wrongPrograms() {
        wrong("\n", 0);
        wrong("z 0 1\n", 0);
        wrong("xx 0 1\n", 0);
        wrong("x", 1);
        wrong("x1 0 1\n", 0);
        wrong("x 1 10\n", 2);
        wrong("x 1", 2);
        wrong("x 0", 3);
        wrong("x 00 1\n", 3);
        wrong("x 0 0\n", 4);
        wrong("x 0 100\n", 4);
        wrong("x 0 05\n", 5);
        wrong("x 0 1234567\n", 10);
        wrong("x 0 99", 6);
        wrong("x 0 10 \n", 6);
        wrong("y 0 50\n", 4);
        wrong("y 0 49\ny 1 1\n", 11);
        wrong("x 0 1\nx 0 1\n", 10);
        wrong("x 0 1\nx 2 1\n", 8);
        wrong("x 0 1\n\n", 6);
        wrong(cuts(30) + "x 30 1\n", 200);
        wrong(cuts(30) + "?", 200);
    }

    /** So many cuts, each one off the newest PIECE. */
    private static String cuts(int many) {
        StringBuilder text = new StringBuilder();
        for (int i = 0; i < many; i++) {
            text.append("x ").append(i).append(" 1\n");
        }
        return text.toString();
    }

    private static void piece(House x, int k, int left, int top, int wide, int high) {
        CHECK.due("piece " + k + " x", x.piece(k, 0), left);
        CHECK.due("piece " + k + " y", x.piece(k, 1), top);
        CHECK.due("piece " + k + " width", x.piece(k, 2), wide);
        CHECK.due("piece " + k + " height", x.piece(k, 3), high);
    }

    private static void pileLimits() {
        House x = new House();
        CHECK.due("pile(0, 1)", x.pile(0, 1), PaperHouse.NONE);
        CHECK.due("pile(1, 0)", x.pile(1, 0), PaperHouse.NONE);
        CHECK.due("pile(1000, 1)", x.pile(1000, 1), PaperHouse.NONE);
        CHECK.due("pile(1, 1000)", x.pile(1, 1000), PaperHouse.NONE);
        CHECK.due("no pile", x.count(10), 0);
        CHECK.due("an empty program, high", x.pile(1, 999), 1);
        piece(x, 0, 0, 0, 1, 999);
        CHECK.due("an empty program, wide", x.pile(999, 1), 1);
        piece(x, 0, 0, 0, 999, 1);
        CHECK.due("piece(0, 4)", x.piece(0, 4), PaperHouse.NONE);
        CHECK.due("piece(0, -1)", x.piece(0, -1), PaperHouse.NONE);
        CHECK.due("piece(1, 0)", x.piece(1, 0), PaperHouse.NONE);
        CHECK.due("piece(-1, 0)", x.piece(-1, 0), PaperHouse.NONE);
        CHECK.due("on(998, 0)", x.on(998, 0), 0);
        CHECK.due("on(999, 0)", x.on(999, 0), PaperHouse.NONE);
        CHECK.due("on(0, 1)", x.on(0, 1), PaperHouse.NONE);
        CHECK.due("on(-1, 0)", x.on(-1, 0), PaperHouse.NONE);
        CHECK.due("on(0, -1)", x.on(0, -1), PaperHouse.NONE);
        CHECK.due("on far off", x.on(Integer.MAX_VALUE, Integer.MIN_VALUE), PaperHouse.NONE);
    }

    private static void manyCuts() {
        House x = new House();
        CHECK.due("30 cuts", Check.pile(x, 100, 50, cuts(30)), 31);
        CHECK.due("count(10)", x.count(10), 31);
        piece(x, 0, 0, 0, 1, 50);
        piece(x, 30, 30, 0, 70, 50);
        CHECK.due("on(29, 49)", x.on(29, 49), 29);
        CHECK.due("a new pile", Check.pile(x, 10, 20, "y 0 5\nx 1 3\ny 0 2\n"), 4);
        piece(x, 0, 0, 0, 10, 2);
        piece(x, 1, 0, 5, 3, 15);
        piece(x, 2, 3, 5, 7, 15);
        piece(x, 3, 0, 2, 10, 3);
    }

    private static void wrongChangesNothing() {
        House x = new House();
        Check.pile(x, 10, 20, "y 0 5\n");
        CHECK.due("wrong", Check.pile(x, 30, 30, "x 0 3\nx 0 2\nx 0 9\n"), -1016);
        CHECK.due("pieces stay", x.count(10), 2);
        piece(x, 0, 0, 0, 10, 5);
        piece(x, 1, 0, 5, 10, 15);
    }

    private static void anyPiles() {
        Random random = new Random(23);
        for (int run = 0; run < 100; run++) {
            House x = new House();
            int wide = 1 + random.nextInt(40);
            int high = 1 + random.nextInt(40);
            int[][] owner = new int[high][wide];
            StringBuilder text = new StringBuilder();
            int pieces = 1;
            for (int i = 0; i < 60 && pieces < 31; i++) {
                if (cutGrid(owner, pieces, random, text)) {
                    pieces++;
                }
            }
            CHECK.due("pieces", Check.pile(x, wide, high, text.toString()), pieces);
            for (int y = 0; y < high; y++) {
                for (int at = 0; at < wide; at++) {
                    CHECK.due("on", x.on(at, y), owner[y][at]);
                }
            }
        }
    }

    /** Cuts a PIECE of a grid whose fields tell whose they are. */
    private static boolean cutGrid(int[][] owner, int pieces, Random random, StringBuilder text) {
        int k = random.nextInt(pieces);
        int left = Integer.MAX_VALUE;
        int right = 0;
        int top = Integer.MAX_VALUE;
        int bottom = 0;
        for (int y = 0; y < owner.length; y++) {
            for (int x = 0; x < owner[y].length; x++) {
                if (owner[y][x] == k) {
                    left = Math.min(left, x);
                    right = Math.max(right, x);
                    top = Math.min(top, y);
                    bottom = Math.max(bottom, y);
                }
            }
        }
        boolean across = random.nextBoolean();
        int size = across ? right - left + 1 : bottom - top + 1;
        if (size < 2) {
            return false;
        }
        int far = 1 + random.nextInt(size - 1);
        text.append(across ? "x " : "y ").append(k).append(' ').append(far).append('\n');
        for (int y = 0; y < owner.length; y++) {
            for (int x = 0; x < owner[y].length; x++) {
                if (owner[y][x] == k && (across ? x - left : y - top) >= far) {
                    owner[y][x] = pieces;
                }
            }
        }
        return true;
    }

    private static void wrongCopy(String text, int place) {
        CHECK.due("gather of " + text.replace("\n", "/"), Check.gather(new House(), text), -1000 - place);
    }

    private static void wrongCopies() {
        wrongCopy("", 0);
        wrongCopy("\n", 0);
        wrongCopy("0\n", 0);
        wrongCopy("9\n", 0);
        wrongCopy("10\n", 0);
        wrongCopy("01\n", 1);
        wrongCopy("1", 1);
        wrongCopy("1 \n", 2);
        wrongCopy("1  2\n", 2);
        wrongCopy("1,2\n", 1);
        wrongCopy("1 2\n3\n", 4);
        wrongCopy("1 a\n", 2);
        wrongCopy("1" + " 1".repeat(20) + "\n", 39);
        wrongCopy("1" + " 1".repeat(19), 39);
    }

    private static void copies() {
        House x = new House();
        CHECK.due("one of one", Check.gather(x, "1\n"), 0);
        CHECK.due("another one", Check.gather(x, "2\n"), 1);
        CHECK.due("one too many", Check.gather(x, "1 1\n"), 2);
        CHECK.due("twenty", Check.gather(x, "1" + " 2".repeat(19) + "\n"), 2);
        x.book(8, 0, 1);
        CHECK.due("eight", Check.gather(x, "1 2 3 4 5 6 7 8\n"), 0);
        CHECK.due("seven", Check.gather(x, "1 2 3 4 5 6 7\n"), 8);
        CHECK.due("nine", Check.gather(x, "1 2 3 4 5 6 7 8 8\n"), 9);
        CHECK.due("two lie the other way round", Check.gather(x, "1 2 4 3 5 6 7 8\n"), 3);
        CHECK.due("wrong ahead of missing", Check.gather(x, "2\n"), 1);
    }
}
