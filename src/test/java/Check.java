import java.nio.charset.StandardCharsets;
import java.util.Arrays;

/** What the tests share: comparing answers, and putting a text onto a tape. */
final class Check {
    private int wrong = 0;
    private int asked = 0;

    /** A call that takes a text: on an object whose tape is empty. */
    interface TextCall {
        int of(House x, String text);
    }

    void due(String call, long got, long want) {
        asked++;
        if (got != want) {
            wrong++;
            System.out.println(call + " answered " + got + ", due is " + want);
        }
    }

    void due(String call, boolean got) {
        due(call, got ? 1 : 0, 1);
    }

    void due(String call, boolean got, boolean want) {
        due(call, got ? 1 : 0, want ? 1 : 0);
    }

    void none(String call, long got) {
        due(call, got, PaperHouse.NONE);
    }

    /** Ends the test's program: with 1 if an answer was wrong. */
    void finish() {
        System.out.println(asked + " answers, " + wrong + " not as due");
        if (wrong != 0 || asked == 0) {
            System.exit(1);
        }
    }

    private static String shown(String text) {
        return "\"" + text.replace("\n", "/") + "\"";
    }

    /** A new object takes the text; behind it the tape is empty. */
    void right(TextCall call, String text) {
        House x = new House();
        int answer = call.of(x, text);
        due(shown(text) + " is right, but answers " + answer + ":", answer >= 0);
        none("the tape is empty behind " + shown(text) + ": end(1)", x.end(1));
    }

    /** To a new object the text is WRONG at this place; behind it the tape is empty. */
    void wrong(TextCall call, String text, int place) {
        House x = new House();
        due(shown(text), call.of(x, text), -1000 - place);
        none("the tape is empty behind " + shown(text) + ": end(1)", x.end(1));
    }

    /** Both sides of a NUMBER's range, and all that Part I and CORNERS tell of NUMBERS, at one place of a text. */
    void numbers(TextCall call, String ahead, int low, int high, String behind) {
        int from = ahead.length();
        for (int value : new int[] {low, high}) {
            right(call, ahead + value + behind);
            int length = Integer.toString(value).length();
            wrong(call, ahead + value, from + length);
            wrong(call, ahead + value + "x" + behind, from + length);
            wrong(call, ahead + "0" + value + behind, from + 1);
            wrong(call, ahead + "0" + value, from + 1);
        }
        for (int value : new int[] {low - 1, high + 1, 100000, 999999}) {
            if (value >= 0) {
                wrong(call, ahead + value + behind, from);
                wrong(call, ahead + value, from);
                wrong(call, ahead + value + "x", from);
            }
        }
        for (String seven : new String[] {"1000000", "9999999", "1234567890"}) {
            wrong(call, ahead + seven + behind, from + 6);
            wrong(call, ahead + seven, from + 6);
        }
        for (String none : new String[] {"", "-1", "+1", " " + low, "x", "A"}) {
            wrong(call, ahead + none + behind, from);
        }
        wrong(call, ahead, from);
    }

    /** A WORD at one place of a text; no other one may stand there. */
    void word(TextCall call, String ahead, String told, String behind) {
        int from = ahead.length();
        right(call, ahead + told + behind);
        wrong(call, ahead + told, from + told.length());
        for (int length = 1; length < told.length(); length++) {
            wrong(call, ahead + told.substring(0, length), from);
            wrong(call, ahead + told.substring(0, length) + behind, from);
        }
        for (String other : new String[] {told + told, told + "z", told + "0", "z" + told, "a1", "q"}) {
            wrong(call, ahead + other + behind, from);
            wrong(call, ahead + other, from);
        }
        for (String none : new String[] {"", " ", "0" + told, "-", told.toUpperCase(), "\n"}) {
            wrong(call, ahead + none + behind, from);
        }
        wrong(call, ahead + told + "X" + behind, from + told.length());
    }

    /** The tape, empty ahead of it, has this text. */
    static void tape(House x, String text) {
        bytes(x, text.getBytes(StandardCharsets.ISO_8859_1));
    }

    static void bytes(House x, byte[] text) {
        x.end(0);
        int[] ints = ints(text);
        for (int i = 0; i < ints.length; i += 5) {
            x.feed(ints[i], ints[i + 1], ints[i + 2], ints[i + 3], ints[i + 4]);
        }
        if (x.end(text.length) != text.length) {
            throw new IllegalStateException("the tape does not take " + text.length + " bytes");
        }
    }

    /** The ints of the feed calls that bring these bytes, five for each call. */
    static int[] ints(byte[] text) {
        byte[] padded = Arrays.copyOf(text, (text.length + 19) / 20 * 20);
        int[] ints = new int[padded.length / 4];
        for (int i = 0; i < padded.length; i++) {
            ints[i / 4] = ints[i / 4] << 8 | padded[i] & 255;
        }
        return ints;
    }

    static int cut(House x, String text) {
        tape(x, text);
        return x.cut();
    }

    static int fold(House x, String text) {
        tape(x, text);
        return x.fold();
    }

    static int draw(House x, int page, String text) {
        tape(x, text);
        return x.draw(page);
    }

    static int set(House x, int measure, String text) {
        tape(x, text);
        return x.set(measure);
    }

    static int pile(House x, int w, int h, String text) {
        tape(x, text);
        return x.pile(w, h);
    }

    static int gather(House x, String text) {
        tape(x, text);
        return x.gather();
    }

    static int letters(House x, String text) {
        tape(x, text);
        return x.letters();
    }
}
