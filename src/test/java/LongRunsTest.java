import java.util.ArrayList;
import java.util.List;

/** Cases that come up only after many calls: each object is used for up to 512, the last one being looked at, too. */
public final class LongRunsTest {
    private static final Check CHECK = new Check();

    public static void main(String[] args) {
        tapeFullAgainAndAgain();
        tapeByteByByte();
        sheetBySheet();
        goodOnesOneByOne();
        letterByLetter();
        comingAndGoing();
        lineByLine();
        sortsThatGrow();
        jobsThatComeAndGo();
        manyPlans();
        manyBooksAndPlates();
        manyPiles();
        the512thCall();
        CHECK.finish();
    }

    private static int feedByte(PaperHouse x, int b) {
        return x.feed(b << 24, 0, 0, 0, 0);
    }

    /** "FULL if there would be more than 1,600", a second and a third time. */
    private static void tapeFullAgainAndAgain() {
        PaperHouse x = new PaperHouse();
        for (int round = 0; round < 6; round++) {
            for (int i = 1; i <= 80; i++) {
                CHECK.due("feed " + i, x.feed(0x61616161, 0, 0, 0, 0x61616161), 20 * i);
            }
            CHECK.due("feed 81", x.feed(0, 0, 0, 0, 0), PaperHouse.FULL);
            CHECK.due("a text's call empties it", x.set(20), -1004);
            CHECK.due("empty", x.end(1), PaperHouse.NONE);
        }
    }

    /** A tape that grows by a byte with each feed and end, up to 250. */
    private static void tapeByteByByte() {
        PaperHouse x = new PaperHouse();
        String text = "12345 abcdefgh\n".repeat(16) + "12345 b";
        for (int i = 0; i < text.length(); i++) {
            CHECK.due("feed at " + i, feedByte(x, text.charAt(i)), i + 20);
            CHECK.due("end", x.end(i + 1), i + 1);
        }
        CHECK.due("letters", x.letters(), -1000 - text.length());
    }

    /** 510 calls of print: FULL comes as soon as there would be more than 4,000. */
    private static void sheetBySheet() {
        PaperHouse x = new PaperHouse();
        CHECK.due("mount", x.mount(0, 0), 2);
        int printed = 0;
        for (int call = 0; call < 508; call++) {
            int due = printed + 8 > 4000 ? PaperHouse.FULL : 8;
            CHECK.due("print(8) at " + printed, x.print(8), due);
            printed += due > 0 ? 8 : 0;
        }
        CHECK.due("all 4000", printed, 4000);
        CHECK.due("count(7)", x.count(7), 4000);
        CHECK.due("count(8)", x.count(8), 4000);
        PaperHouse y = new PaperHouse();
        y.mount(0, 0);
        for (int i = 0; i < 500; i++) {
            CHECK.due("print(7)", y.print(7), 7);
        }
        CHECK.due("print(500) at 3500", y.print(500), 500);
        CHECK.due("print(1) at 4000", y.print(1), PaperHouse.FULL);
        CHECK.due("good(1) at 4000", y.good(1), 0);
        CHECK.due("number(4000)", y.number(4000), 4000);
        CHECK.due("number(4001)", y.number(4001), PaperHouse.NONE);
    }

    /** Each second one is SPOILED: good(5) prints 9 or 10 sheets, up to 4,000. */
    private static void goodOnesOneByOne() {
        PaperHouse x = new PaperHouse();
        x.mount(0, 0);
        x.aim(0, 0, 2);
        int printed = 0;
        for (int call = 0; call < 420; call++) {
            int due = Math.min(4000 - printed, printed % 2 == 0 ? 9 : 10);
            CHECK.due("good(5) at " + printed, x.good(5), due);
            printed += due;
        }
        CHECK.due("all 4000", x.count(7), 4000);
        CHECK.due("2000 GOOD", x.count(8), 2000);
        CHECK.due("number(3999)", x.number(3999), 2000);
        CHECK.due("number(4000)", x.number(4000), 0);
    }

    private static int letter(PaperHouse x, int i) {
        String text = String.format("%05d a\n", i);
        int[] ints = Check.ints(text.getBytes(java.nio.charset.StandardCharsets.ISO_8859_1));
        x.feed(ints[0], ints[1], 0, 0, 0);
        x.end(8);
        return x.letters();
    }

    /** 120 LETTERS by texts of one line each; a 121st does not come. */
    private static void letterByLetter() {
        PaperHouse x = new PaperHouse();
        for (int i = 0; i < 120; i++) {
            CHECK.due("letter " + i, letter(x, 50000 - i), i + 1);
        }
        CHECK.due("one more", letter(x, 0), PaperHouse.FULL);
        CHECK.due("one that is there", letter(x, 50000), 120);
        CHECK.due("bundles", x.bundles(1, 1), 120);
        for (int i = 0; i < 120; i++) {
            CHECK.due("came " + i, x.letter(i, 3), 119 - i);
        }
        CHECK.due("strike", x.strike(0), 119);
        CHECK.due("one more goes", letter(x, 0), 120);
        CHECK.due("it came last", x.letter(0, 3), 119);
        CHECK.due("CODE", x.letter(0, 0), 0);
    }

    /** LETTERS that come and go: the order of coming is told of those that are there alone. */
    private static void comingAndGoing() {
        PaperHouse x = new PaperHouse();
        for (int i = 0; i < 3; i++) {
            letter(x, i);
        }
        for (int round = 0; round < 60; round++) {
            int first = round % 3;
            for (int k = 0; k < 3; k++) {
                CHECK.due("came " + k, x.letter(k, 3), Math.floorMod(k - first, 3));
            }
            CHECK.due("strike", x.strike(first), 2);
            CHECK.due("comes again", letter(x, first), 3);
        }
    }

    private static int set(PaperHouse x, int letter) {
        x.feed(('a' + letter) << 24 | '\n' << 16, 0, 0, 0, 0);
        x.end(2);
        return x.set(20);
    }

    /** The GALLEY full, a line distributed, another one set, again and again. */
    private static void lineByLine() {
        PaperHouse x = new PaperHouse();
        List<Integer> model = new ArrayList<>();
        for (int i = 0; i < 16; i++) {
            CHECK.due("line " + i, set(x, i), 1);
            model.add(i);
        }
        for (int round = 0; round < 50; round++) {
            CHECK.due("a seventeenth", set(x, 25), 0);
            int gone = round * 7 % 16;
            CHECK.due("distribute", x.distribute(gone), 15);
            model.remove(gone);
            CHECK.due("set", set(x, round % 26), 1);
            model.add(round % 26);
        }
        CHECK.due("lines", x.count(9), 16);
        for (int line = 0; line < 16; line++) {
            CHECK.due("line " + line, x.strip(line, 0), model.get(line) + 1);
        }
        for (int letter = 0; letter < 26; letter++) {
            int in = 0;
            for (int one : model) {
                in += one == letter ? 1 : 0;
            }
            CHECK.due("left(" + (letter + 1) + ")", x.left(letter + 1), 20 - in);
        }
    }

    /** The CASE is filled up to 99 while others lie in the GALLEY: as they come back, it has ever more. */
    private static void sortsThatGrow() {
        House x = new House();
        String text = "aaaaaaaaaaa ".repeat(9).substring(0, 107) + "\n";
        for (int line = 0; line < 16; line++) {
            CHECK.due("sorts", x.sorts(1, 99, 1), 1);
            CHECK.due("99 letters", Check.set(x, 200, text), 1);
            CHECK.due("none left", x.left(1), 0);
        }
        for (int back = 1; back <= 16; back++) {
            CHECK.due("distribute", x.distribute(16 - back), 16 - back);
            CHECK.due("left", x.left(1), 99 * back);
        }
        CHECK.due("144 at once", Check.set(x, 200, "aaaaaaaaaaaa ".repeat(12).substring(0, 155) + "\n"), 1);
        CHECK.due("left", x.left(1), 1584 - 144);
        CHECK.due("sorts", x.sorts(1, 0, 1), 1);
        CHECK.due("the CASE has what is told", x.left(1), 0);
        CHECK.due("distribute", x.distribute(0), 0);
        CHECK.due("and what comes back", x.left(1), 144);
    }

    private static void jobsThatComeAndGo() {
        PaperHouse x = new PaperHouse();
        for (int i = 0; i < 6; i++) {
            x.job(i % 4, 10 + i, 10, 999);
        }
        for (int round = 0; round < 80; round++) {
            CHECK.due("a seventh", x.job(0, 1, 1, 0), PaperHouse.FULL);
            CHECK.due("drop", x.drop(round % 6), 5);
            CHECK.due("job", x.job(round % 4, 10 + round % 80, 10, 999), 5);
            CHECK.due("print time of the last", x.when(5, 1) - x.when(5, 0), 10 + round % 80);
            CHECK.due("JOBS", x.count(13), 6);
        }
    }

    private static void manyPlans() {
        House x = new House();
        for (int round = 0; x.room() > 10; round++) {
            int wanted = 1 + round % 9;
            int knives = 1 + round % 6;
            int rolls = (wanted + knives - 1) / knives;
            CHECK.due("cut", Check.cut(x, "roll 400 " + knives + "\ncut " + (10 + round) % 60 + " " + wanted + "\n"),
                    (10 + round) % 60 < 10 ? -1000 - 15 : rolls);
        }
    }

    private static void manyBooksAndPlates() {
        House x = new House();
        String[] folds = {"sheet 8 8\nfold lrltbt\n", "sheet 1 1\nfold \n", "sheet 2 4\nfold rtl\n"};
        int[] leaves = {64, 1, 8};
        for (int round = 0; x.room() > 20; round++) {
            int which = round % 3;
            CHECK.due("fold", Check.fold(x, folds[which]), leaves[which]);
            CHECK.due("book", x.book(1 + round % 8, round % 2, 1), (1 + round % 8) * leaves[which] * 2);
            CHECK.due("mount", x.mount(round % 8, 0), which == 0 ? 8 : which == 1 ? 1 : 4);
            CHECK.due("draw", Check.draw(x, round % 32, "box 0 0 8 8 " + round % 17 + "\n"), 64 * (round % 17));
        }
    }

    private static void manyPiles() {
        House x = new House();
        for (int round = 0; x.room() > 20; round++) {
            int cuts = round % 10;
            StringBuilder text = new StringBuilder();
            for (int i = 0; i < cuts; i++) {
                text.append("y ").append(i).append(" 1\n");
            }
            CHECK.due("pile", Check.pile(x, 1 + round, cuts + 1, text.toString()), cuts + 1);
            CHECK.due("width", x.piece(cuts, 2), 1 + round);
            CHECK.due("height", x.piece(cuts, 3), 1);
            CHECK.due("none behind", x.piece(cuts + 1, 3), PaperHouse.NONE);
        }
    }

    /** "An object is used for at most 512 calls": the 512th is answered as any other. */
    private static void the512thCall() {
        PaperHouse x = new PaperHouse();
        for (int call = 1; call <= 511; call++) {
            x.key(call % 8, call % 256);
        }
        CHECK.due("the 512th", x.key(7, 0), 511 % 256);
        PaperHouse y = new PaperHouse();
        for (int call = 1; call <= 511; call++) {
            y.count(call % 14);
        }
        CHECK.due("the 512th", y.book(8, 1, 99), 32);
    }
}
