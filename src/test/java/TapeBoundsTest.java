import java.nio.charset.StandardCharsets;

/** The boundary cases of Part I and of promises 1, 2 and 3, sentence by sentence. */
public final class TapeBoundsTest {
    private static final Check CHECK = new Check();
    private static final int A4 = 0x61616161;
    private static final String LETTERS_TEXT = "12345 abc\n54321 x1\n";

    public static void main(String[] args) {
        feedUpTo1600();
        feedNearTheEnd();
        feedHighestByteFirst();
        fullFeedChangesNothing();
        endKeepsTheFirstBytes();
        endRefused();
        endTakesBytesForGood();
        bytesOfTexts();
        emptyBehindRightTexts();
        emptyBehindWrongFullAndZero();
        noneLeavesTheTape();
        stateLeavesTheTape();
        otherCallsLeaveTheTape();
        longestTape();
        aNewObject();
        objectsAreApart();
        CHECK.finish();
    }

    /** "How many there are. FULL if there would be more than 1,600." */
    private static void feedUpTo1600() {
        House x = new House();
        for (int i = 1; i <= 80; i++) {
            CHECK.due("feed " + i, x.feed(A4, A4, A4, A4, A4), 20 * i);
        }
        for (int i = 0; i < 3; i++) {
            CHECK.due("feed at 1600", x.feed(A4, A4, A4, A4, A4), PaperHouse.FULL);
        }
        CHECK.due("1600 stay", x.end(1600), 1600);
    }

    /** Twenty bytes more than 1,600 hold are refused whole: 1,580 is the last length that takes them. */
    private static void feedNearTheEnd() {
        House x = new House();
        for (int i = 0; i < 80; i++) {
            x.feed(A4, A4, A4, A4, A4);
        }
        for (int n = 1600; n > 1580; n--) {
            CHECK.due("end(" + n + ")", x.end(n), n);
            CHECK.due("feed at " + n, x.feed(A4, A4, A4, A4, A4), PaperHouse.FULL);
            CHECK.none("none came at " + n + ": end(" + (n + 1) + ")", x.end(n + 1));
            CHECK.due("all stay at " + n, x.end(n), n);
        }
        CHECK.due("end(1580)", x.end(1580), 1580);
        CHECK.due("feed at 1580", x.feed(A4, A4, A4, A4, A4), 1600);
        CHECK.due("end(1579)", x.end(1579), 1579);
        CHECK.due("feed at 1579", x.feed(A4, A4, A4, A4, A4), 1599);
        CHECK.due("feed at 1599", x.feed(A4, A4, A4, A4, A4), PaperHouse.FULL);
    }

    /** "Twenty bytes come behind those on THE TAPE, the highest of each int first." */
    private static void feedHighestByteFirst() {
        String text = "1 2 3 4 5 6 7 8 1 2\n";
        for (int place = 0; place < 20; place++) {
            for (int b : new int[] {'!', 127, 128, 255}) {
                byte[] bytes = text.getBytes(StandardCharsets.ISO_8859_1);
                bytes[place] = (byte) b;
                House x = new House();
                int[] ints = Check.ints(bytes);
                CHECK.due("feed", x.feed(ints[0], ints[1], ints[2], ints[3], ints[4]), 20);
                CHECK.due("byte " + b + " at " + place, x.gather(), -1000 - place);
            }
        }
        House x = new House();
        CHECK.due("first twenty", x.feed(0x31203220, 0x33203420, 0x35203620, 0x37203820, 0x31203220), 20);
        CHECK.due("twenty behind them", x.feed(0x33203420, 0x35203620, 0x37203820, 0x31203220, 0x330a0000), 40);
        CHECK.due("their end", x.end(38), 38);
        CHECK.due("a copy of one sheet's book", x.gather(), 2);
    }

    private static void fullFeedChangesNothing() {
        House x = new House();
        Check.tape(x, LETTERS_TEXT);
        while (x.feed(A4, A4, A4, A4, A4) != PaperHouse.FULL) {
            CHECK.due("it is full some time", x.room() > 300);
        }
        x.feed(0, 0, 0, 0, 0);
        CHECK.due("end", x.end(LETTERS_TEXT.length()), LETTERS_TEXT.length());
        CHECK.due("the bytes are there", x.letters(), 2);
        CHECK.due("code", x.letter(0, 0), 12345);
    }

    /** "THE TAPE has its first n bytes alone: n." */
    private static void endKeepsTheFirstBytes() {
        String text = "a b c d e f g h i j\n";
        for (int n = 0; n <= 20; n++) {
            House x = new House();
            Check.tape(x, text);
            CHECK.due("end(" + n + ")", x.end(n), n);
            int due = n == 20 ? 1 : -1000 - n;
            CHECK.due("set of its first " + n, x.set(200), due);
        }
    }

    /** "NONE if there are not so many, or n is below 0": and the bytes stay. */
    private static void endRefused() {
        House x = new House();
        CHECK.due("end(0) of none", x.end(0), 0);
        CHECK.none("end(1) of none", x.end(1));
        CHECK.none("end(-1) of none", x.end(-1));
        Check.tape(x, LETTERS_TEXT);
        int length = LETTERS_TEXT.length();
        for (int n : new int[] {-1, -2, -1000, Integer.MIN_VALUE, length + 1, 1600, 1601, Integer.MAX_VALUE}) {
            CHECK.none("end(" + n + ") of " + length, x.end(n));
        }
        CHECK.due("end of all", x.end(length), length);
        CHECK.due("all stayed", x.letters(), 2);
        CHECK.due("end(0) behind a text", x.end(0), 0);
        CHECK.none("end(1) behind a text", x.end(1));
    }

    private static void endTakesBytesForGood() {
        House x = new House();
        x.feed(A4, A4, A4, A4, A4);
        CHECK.due("end(3)", x.end(3), 3);
        CHECK.none("end(4) behind end(3)", x.end(4));
        CHECK.due("feed", x.feed(0x0a626262, A4, A4, A4, A4), 23);
        CHECK.due("end(4)", x.end(4), 4);
        CHECK.due("aaa", x.set(20), 1);
        CHECK.due("three letters", x.line(0, 2), 3);
    }

    /** "Bytes of texts are 10 and 32 .. 126." No others stand in any text, and of these just what its form tells. */
    private static void bytesOfTexts() {
        for (int b = 0; b < 256; b++) {
            House x = new House();
            Check.bytes(x, new byte[] {'a', (byte) b, 'b', '\n'});
            boolean right = b == ' ' || b >= 'a' && b <= 'z';
            int due = right ? 1 : b == '\n' ? -1002 : -1001;
            CHECK.due("set with byte " + b, x.set(200), due);
            Check.bytes(x, new byte[] {(byte) b});
            CHECK.due("a text of byte " + b, x.set(200), b >= 'a' && b <= 'z' ? -1001 : -1000);
            Check.bytes(x, new byte[] {'1', '0', '0', '0', '0', ' ', 'a', (byte) b, 'b', '\n'});
            right = b >= '0' && b <= '9' || b >= 'a' && b <= 'z';
            CHECK.due("letters with byte " + b, x.letters(), right ? 1 : b == '\n' ? -1008 : -1007);
            Check.bytes(x, new byte[] {'1', '0', '0', '0', '0', ' ', (byte) b, 'b', '\n'});
            CHECK.due("a NAME that begins with byte " + b, x.letters() > -1000 == (b >= 'a' && b <= 'z'));
        }
    }

    private static void emptyBehindRightTexts() {
        String[] texts = {"roll 50 1\ncut 50 1\n", "sheet 1 1\nfold \n", "box 0 0 1 1 0\n", "a\n", "x 0 1\n", "1\n",
            "00000 a\n"};
        int[] due = {1, 1, 0, 1, 2, 0, 1};
        for (int call = 0; call < texts.length; call++) {
            House x = new House();
            Check.tape(x, texts[call]);
            CHECK.due("text call " + call, textCall(x, call), due[call]);
            CHECK.none("the tape is empty behind it", x.end(1));
            CHECK.due("the next text begins at 0", x.feed(0x610a0000, 0, 0, 0, 0), 20);
            x.end(2);
            CHECK.due("and is read", x.set(20), 1);
        }
    }

    /** "Behind a text's call the tape is empty, whatever it answers." */
    private static void emptyBehindWrongFullAndZero() {
        House x = new House();
        for (int call = 0; call < 7; call++) {
            Check.tape(x, "?");
            CHECK.due("WRONG " + call, textCall(x, call), -1000);
            CHECK.none("empty behind WRONG " + call, x.end(1));
        }
        CHECK.due("a word too wide", Check.set(x, 20, "aaaaaa\n"), 0);
        CHECK.none("empty behind 0", x.end(1));
        for (int i = 0; i < 3; i++) {
            StringBuilder text = new StringBuilder();
            for (int k = 0; k < 40; k++) {
                text.append(10000 + 40 * i + k).append(" a\n");
            }
            CHECK.due("letters", Check.letters(x, text.toString()), 40 * i + 40);
        }
        CHECK.due("one more", Check.letters(x, "00000 a\n"), PaperHouse.FULL);
        CHECK.none("empty behind FULL", x.end(1));
    }

    /** "But NONE and STATE leave it." */
    private static void noneLeavesTheTape() {
        House x = new House();
        Check.tape(x, "a\n");
        CHECK.none("draw(-1)", x.draw(-1));
        CHECK.none("draw(32)", x.draw(32));
        CHECK.none("set(19)", x.set(19));
        CHECK.none("set(201)", x.set(201));
        CHECK.none("pile(0, 1)", x.pile(0, 1));
        CHECK.none("pile(1, 0)", x.pile(1, 0));
        CHECK.none("pile(1000, 1)", x.pile(1000, 1));
        CHECK.none("pile(1, 1000)", x.pile(1, 1000));
        CHECK.none("no more than two bytes", x.end(3));
        CHECK.due("two bytes", x.end(2), 2);
        CHECK.due("it is set", x.set(20), 1);
        CHECK.due("it is empty now: NONE ahead of WRONG", x.set(19), PaperHouse.NONE);
        CHECK.due("WRONG with a right measure", x.set(20), -1000);
        Check.tape(x, "?");
        CHECK.none("NONE ahead of WRONG: draw", x.draw(32));
        CHECK.none("NONE ahead of WRONG: pile", x.pile(1, 1000));
        CHECK.none("NONE ahead of WRONG: set", x.set(201));
        CHECK.due("WRONG", x.draw(31), -1000);
    }

    private static void stateLeavesTheTape() {
        House x = new House();
        Check.tape(x, "a\n");
        CHECK.due("print", x.print(1), PaperHouse.STATE);
        CHECK.due("good", x.good(1), PaperHouse.STATE);
        CHECK.due("the tape stays", x.set(20), 1);
    }

    private static void otherCallsLeaveTheTape() {
        House x = new House();
        Check.tape(x, "a\n");
        x.book(2, 1, 3);
        x.mount(0, 0);
        x.key(0, 3);
        x.aim(1, 1, 1);
        x.print(3);
        x.good(2);
        x.sorts(2, 3, 4);
        x.distribute(0);
        x.bundles(1, 1);
        x.strike(0);
        x.job(0, 1, 1, 1);
        x.times(1, 1);
        x.drop(0);
        for (int what = -1; what < 15; what++) {
            x.count(what);
        }
        CHECK.due("the tape stays", x.end(2), 2);
        CHECK.due("and is read", x.set(20), 1);
    }

    /** A tape of 1,600 bytes is no right text of any form; the place of its first wrong byte is told all the same. */
    private static void longestTape() {
        House x = new House();
        String lines = "12345 abcdefgh\n".repeat(40);
        Check.tape(x, lines + "1".repeat(1000));
        CHECK.due("letters", x.letters(), -1600);
        Check.tape(x, "line 7 7 7 7 16\n".repeat(100));
        CHECK.due("draw", x.draw(0), -1640);
        Check.tape(x, "a".repeat(1600));
        CHECK.due("cut: one WORD", x.cut(), -1000);
        Check.tape(x, "x" + "0".repeat(1599));
        CHECK.due("pile: one WORD", x.pile(5, 5), -1000);
        Check.tape(x, "a".repeat(1600));
        CHECK.due("set: a thirteenth letter", x.set(200), -1012);
        Check.tape(x, "1".repeat(1600));
        CHECK.due("gather: a seventh digit", x.gather(), -1006);
    }

    private static int textCall(House x, int call) {
        switch (call) {
            case 0: return x.cut();
            case 1: return x.fold();
            case 2: return x.draw(0);
            case 3: return x.set(50);
            case 4: return x.pile(5, 5);
            case 5: return x.gather();
            default: return x.letters();
        }
    }

    /** Promise 1: what there is none of, and what is told "at first". */
    private static void aNewObject() {
        CHECK.none("the tape is empty: end(1)", new House().end(1));
        House x = new House();
        int[] counts = {0, 0, 0, 0, 0, 2, 1, 0, 0, 0, 0, 0, 0, 0};
        for (int what = 0; what < counts.length; what++) {
            CHECK.due("count(" + what + ")", x.count(what), counts[what]);
        }
        for (int k = -1; k < 5; k++) {
            CHECK.none("no PLAN: pattern(0, " + k + ")", x.pattern(0, k));
        }
        for (int what = 0; what < 6; what++) {
            CHECK.none("nothing mounted: zone(0, " + what + ")", x.zone(0, what));
        }
        CHECK.none("nothing mounted: settled(0)", x.settled(0));
        CHECK.none("nothing mounted: number(1)", x.number(1));
        CHECK.none("no PILE: on(0, 0)", x.on(0, 0));
        for (int what = 0; what < 5; what++) {
            CHECK.none("no PILE: piece(0, " + what + ")", x.piece(0, what));
            CHECK.none("no lines: line(0, " + what + ")", x.line(0, what));
            CHECK.none("no LETTERS: letter(0, " + what + ")", x.letter(0, what));
            CHECK.none("no BUNDLES: bundle(0, " + what + ")", x.bundle(0, what));
            CHECK.none("no JOBS: when(0, " + what + ")", x.when(0, what));
        }
        CHECK.none("no lines: strip(0, 0)", x.strip(0, 0));
        CHECK.none("no lines: distribute(0)", x.distribute(0));
        CHECK.none("no LETTERS: strike(0)", x.strike(0));
        CHECK.none("no LETTERS: letter(0, 10)", x.letter(0, 10));
        CHECK.none("no JOBS: order(0)", x.order(0));
        CHECK.none("no JOBS: drop(0)", x.drop(0));
        for (int y = 0; y < 8; y++) {
            for (int side = 0; side < 2; side++) {
                CHECK.due("all DOTS are 0", x.point(0, side, 2 * y, y), 0);
            }
        }
        CHECK.due("bundles of none", x.bundles(4, 10), 0);
    }

    /** What one object has does not come to another. */
    private static void objectsAreApart() {
        House one = new House();
        Check.letters(one, LETTERS_TEXT);
        Check.cut(one, "roll 50 1\ncut 50 1\n");
        Check.draw(one, 1, "box 0 0 8 8 16\n");
        one.sorts(1, 3, 3);
        one.key(0, 9);
        one.feed(A4, A4, A4, A4, A4);
        House other = new House();
        CHECK.none("tape", other.end(1));
        CHECK.due("letters", other.count(11), 0);
        CHECK.due("rolls", other.count(3), 0);
        CHECK.due("dots", other.point(0, 0, 0, 0), 0);
        CHECK.due("sorts", other.left(1), 20);
        CHECK.due("keys", other.key(0, 1), 0);
    }
}
