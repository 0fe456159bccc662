import java.nio.charset.StandardCharsets;
import java.util.Arrays;

/** What the tests share: comparing answers, and putting a text onto a tape. */
final class Check {
    private int wrong = 0;
    private int asked = 0;

    void due(String call, long got, long want) {
        asked++;
        if (got != want) {
            wrong++;
            System.out.println(call + " answered " + got + ", due is " + want);
        }
    }

    void due(String call, boolean got) {
        due(call, got ? 1 : 0, 1);
    }

    /** Ends the test's program: with 1 if an answer was wrong. */
    void finish() {
        System.out.println(asked + " answers, " + wrong + " not as due");
        if (wrong != 0 || asked == 0) {
            System.exit(1);
        }
    }

    /** The tape, empty ahead of it, has this text. */
    static void tape(PaperHouse x, String text) {
        bytes(x, text.getBytes(StandardCharsets.ISO_8859_1));
    }

    static void bytes(PaperHouse x, byte[] text) {
        x.end(0);
        byte[] padded = Arrays.copyOf(text, (text.length + 19) / 20 * 20);
        for (int i = 0; i < padded.length; i += 20) {
            x.feed(four(padded, i), four(padded, i + 4), four(padded, i + 8), four(padded, i + 12),
                    four(padded, i + 16));
        }
        if (x.end(text.length) != text.length) {
            throw new IllegalStateException("the tape does not take " + text.length + " bytes");
        }
    }

    private static int four(byte[] b, int i) {
        return (b[i] & 255) << 24 | (b[i + 1] & 255) << 16 | (b[i + 2] & 255) << 8 | b[i + 3] & 255;
    }

    static int cut(PaperHouse x, String text) {
        tape(x, text);
        return x.cut();
    }

    static int fold(PaperHouse x, String text) {
        tape(x, text);
        return x.fold();
    }

    static int draw(PaperHouse x, int page, String text) {
        tape(x, text);
        return x.draw(page);
    }

    static int set(PaperHouse x, int measure, String text) {
        tape(x, text);
        return x.set(measure);
    }

    static int pile(PaperHouse x, int w, int h, String text) {
        tape(x, text);
        return x.pile(w, h);
    }

    static int gather(PaperHouse x, String text) {
        tape(x, text);
        return x.gather();
    }

    static int letters(PaperHouse x, String text) {
        tape(x, text);
        return x.letters();
    }
}
