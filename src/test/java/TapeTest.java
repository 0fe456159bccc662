/** Promises 1 to 3, and what Part I says of all texts. */
public final class TapeTest {
    private static final Check CHECK = new Check();

    public static void main(String[] args) {
        newObject();
        feedAndEnd();
        tapeBehindCalls();
        wrongBytes();
        CHECK.finish();
    }

    private static void newObject() {
        House x = new House();
        int[] counts = {0, 0, 0, 0, 0, 2, 1, 0, 0, 0, 0, 0, 0, 0};
        for (int what = 0; what < counts.length; what++) {
            CHECK.due("new count(" + what + ")", x.count(what), counts[what]);
        }
        CHECK.due("new count(-1)", x.count(-1), PaperHouse.NONE);
        CHECK.due("new count(14)", x.count(14), PaperHouse.NONE);
        CHECK.due("new pattern(0, 0)", x.pattern(0, 0), PaperHouse.NONE);
        CHECK.due("new pattern(0, -1)", x.pattern(0, -1), PaperHouse.NONE);
        CHECK.due("new print(1)", x.print(1), PaperHouse.STATE);
        CHECK.due("new good(1)", x.good(1), PaperHouse.STATE);
        CHECK.due("new settled(0)", x.settled(0), PaperHouse.NONE);
        CHECK.due("new zone(0, 5)", x.zone(0, 5), PaperHouse.NONE);
        CHECK.due("new number(1)", x.number(1), PaperHouse.NONE);
        CHECK.due("new piece(0, 0)", x.piece(0, 0), PaperHouse.NONE);
        CHECK.due("new on(0, 0)", x.on(0, 0), PaperHouse.NONE);
        CHECK.due("new letter(0, 0)", x.letter(0, 0), PaperHouse.NONE);
        CHECK.due("new letter(0, 2)", x.letter(0, 2), PaperHouse.NONE);
        CHECK.due("new bundle(0, 0)", x.bundle(0, 0), PaperHouse.NONE);
        CHECK.due("new order(0)", x.order(0), PaperHouse.NONE);
        CHECK.due("new when(0, 0)", x.when(0, 0), PaperHouse.NONE);
        CHECK.due("new line(0, 0)", x.line(0, 0), PaperHouse.NONE);
        CHECK.due("new where(3, 0)", x.where(3, 0), 0);
        CHECK.due("new where(4, 0)", x.where(4, 0), PaperHouse.NONE);
        for (int letter = 1; letter <= 26; letter++) {
            CHECK.due("new left(" + letter + ")", x.left(letter), 20);
        }
        for (int zone = 0; zone < 8; zone++) {
            CHECK.due("new key(" + zone + ", 0)", x.key(zone, 0), 0);
        }
    }

    private static void feedAndEnd() {
        House x = new House();
        CHECK.due("end(0) of none", x.end(0), 0);
        CHECK.due("end(1) of none", x.end(1), PaperHouse.NONE);
        for (int i = 1; i <= 80; i++) {
            CHECK.due("feed " + i, x.feed(0x61616161, 0x61616161, 0x61616161, 0x61616161, 0x61616161), 20 * i);
        }
        CHECK.due("feed beyond 1600", x.feed(0, 0, 0, 0, 0), PaperHouse.FULL);
        CHECK.due("end(1601)", x.end(1601), PaperHouse.NONE);
        CHECK.due("end(-1)", x.end(-1), PaperHouse.NONE);
        CHECK.due("end(1600)", x.end(1600), 1600);
        CHECK.due("end(1581)", x.end(1581), 1581);
        CHECK.due("feed at 1581", x.feed(0, 0, 0, 0, 0), PaperHouse.FULL);
        CHECK.due("end(1580)", x.end(1580), 1580);
        CHECK.due("feed at 1580", x.feed(0, 0, 0, 0, 0), 1600);
        CHECK.due("end(3)", x.end(3), 3);
        CHECK.due("feed at 3", x.feed(0x20626221, 0x0a000000, 0, 0, 0), 23);
        CHECK.due("end(7)", x.end(7), 7);
        CHECK.due("set of aaa bb!", x.set(100), -1006);
        CHECK.due("bytes in their order",
                wordsOf(x, 0x61626364, 0x65666768, 0x696a6b6c, 0x206d6e6f, 0x7071720a), 1);
        for (int i = 0; i < 6; i++) {
            CHECK.due("strip " + i, x.strip(0, i), 18 - i);
        }
        CHECK.due("strip space", x.strip(0, 6), 30);
        for (int i = 7; i < 19; i++) {
            CHECK.due("strip " + i, x.strip(0, i), 19 - i);
        }
    }

    private static int wordsOf(House x, int a, int b, int c, int d, int e) {
        x.feed(a, b, c, d, e);
        return x.set(200);
    }

    private static void tapeBehindCalls() {
        House x = new House();
        Check.tape(x, "a\n");
        CHECK.due("set NONE", x.set(19), PaperHouse.NONE);
        CHECK.due("draw NONE", x.draw(32), PaperHouse.NONE);
        CHECK.due("pile NONE", x.pile(0, 1), PaperHouse.NONE);
        CHECK.due("the tape stays behind NONE", x.end(2), 2);
        CHECK.due("and can be set", x.set(20), 1);
        CHECK.due("the tape is empty behind it", x.end(1), PaperHouse.NONE);
        String text = "a!\n";
        for (int call = 0; call < 7; call++) {
            Check.tape(x, text);
            CHECK.due("wrong text " + call, textCall(x, call) <= -1000);
            CHECK.due("the tape is empty behind WRONG " + call, x.end(1), PaperHouse.NONE);
            CHECK.due("an empty text " + call, textCall(x, call), call == 4 ? 1 : -1000);
        }
        x.sorts(1, 0, 4);
        CHECK.due("can't be set", Check.set(x, 50, "a\n"), 0);
        CHECK.due("the tape is empty behind 0", x.end(1), PaperHouse.NONE);
    }

    private static int textCall(House x, int call) {
        switch (call) {
            case 0: return x.cut();
            case 1: return x.fold();
            case 2: return x.draw(0);
            case 3: return x.set(50);
            case 4: return x.pile(5, 5);
            case 5: return x.gather();
            default: return x.letters();
        }
    }

    private static void wrongBytes() {
        House x = new House();
        int[] strange = {0, 9, 13, 31, 127, 128, 200, 255};
        for (int b : strange) {
            Check.bytes(x, new byte[] {'a', ' ', (byte) b, '\n'});
            CHECK.due("set with byte " + b, x.set(50), -1002);
            Check.bytes(x, new byte[] {'1', ' ', '2', (byte) b});
            CHECK.due("gather with byte " + b, x.gather(), -1003);
        }
    }
}
