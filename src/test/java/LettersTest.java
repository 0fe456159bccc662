import java.util.ArrayList;
import java.util.Collections;
import java.util.Comparator;
import java.util.List;
import java.util.Random;
import java.util.TreeMap;

/** Promises 30 to 34, and counts 11 and 12 of promise 40. */
public final class LettersTest {
    private static final Check CHECK = new Check();

    public static void main(String[] args) {
        wrongTexts();
        ordering();
        full();
        limits();
        bundlesAtFirst();
        threeKinds();
        anyLists();
        CHECK.finish();
    }

    private static void wrong(String text, int place) {
        House x = new House();
        CHECK.due("letters of " + text.replace("\n", "/"), Check.letters(x, text), -1000 - place);
        CHECK.due("none came", x.count(11), 0);
    }

    private static void wrongTexts() {
        wrong("", 0);
        wrong("\n", 0);
        wrong("1234", 4);
        wrong("1234 a\n", 4);
        wrong("123456 a\n", 5);
        wrong("12a45 a\n", 2);
        wrong("12345", 5);
        wrong("12345 ", 6);
        wrong("12345  a\n", 6);
        wrong("12345 1a\n", 6);
        wrong("12345 A\n", 6);
        wrong("12345 a", 7);
        wrong("12345 a b\n", 7);
        wrong("12345 abcdefghi\n", 14);
        wrong("12345 abcdefgh9\n", 14);
        wrong("12345 abcdefgh", 14);
        wrong("12345 a\n\n", 8);
        wrong("12345 a\n1234", 12);
        wrong("12345 a\n".repeat(40) + "12345 a\n", 320);
        wrong("12345 a\n".repeat(40) + "\n", 320);
    }

    private static void ordering() {
        House x = new House();
        CHECK.due("letters", Check.letters(x, "00010 b\n00010 ab\n00010 a\n00009 z\n99999 a1b2c3d4\n00010 a1\n00010 b\n"), 6);
        String[] names = {"z", "a", "a1", "ab", "b", "a1b2c3d4"};
        int[] codes = {9, 10, 10, 10, 10, 99999};
        int[] came = {3, 2, 5, 1, 0, 4};
        for (int i = 0; i < names.length; i++) {
            CHECK.due("code " + i, x.letter(i, 0), codes[i]);
            CHECK.due("bytes " + i, x.letter(i, 1), names[i].length());
            CHECK.due("came " + i, x.letter(i, 3), came[i]);
            for (int k = 0; k < names[i].length(); k++) {
                CHECK.due("byte " + i + ", " + k, x.letter(i, 10 + k), names[i].charAt(k));
            }
            CHECK.due("behind its bytes " + i, x.letter(i, 10 + names[i].length()), PaperHouse.NONE);
        }
        CHECK.due("there already", Check.letters(x, "00010 ab\n00010 ab\n"), 6);
        CHECK.due("its place among comers stays", x.letter(3, 3), 1);
        CHECK.due("strike", x.strike(4), 5);
        CHECK.due("comers behind it count one less", x.letter(3, 3), 0);
        CHECK.due("it comes again", Check.letters(x, "00010 b\n"), 6);
        CHECK.due("as the last one", x.letter(4, 3), 5);
        CHECK.due("wrong changes nothing", Check.letters(x, "00001 a\n00002 b\n00003"), -1021);
        CHECK.due("count(11)", x.count(11), 6);
        CHECK.due("letter(0, 0)", x.letter(0, 0), 9);
    }

    private static String forty(int from) {
        StringBuilder text = new StringBuilder();
        for (int i = from; i < from + 40; i++) {
            text.append(10000 + i).append(" n\n");
        }
        return text.toString();
    }

    private static void full() {
        House x = new House();
        CHECK.due("40", Check.letters(x, forty(0)), 40);
        CHECK.due("79", Check.letters(x, forty(39)), 79);
        CHECK.due("119", Check.letters(x, forty(79)), 119);
        CHECK.due("121", Check.letters(x, "00000 a\n00000 b\n"), PaperHouse.FULL);
        CHECK.due("none came", x.count(11), 119);
        CHECK.due("the tape is empty", x.end(1), PaperHouse.NONE);
        CHECK.due("WRONG ahead of FULL", Check.letters(x, "00000 a\n00000 b\nx"), -1016);
        CHECK.due("120: twice the same, and one that is there",
                Check.letters(x, "00000 a\n00000 a\n10000 n\n"), 120);
        CHECK.due("there already", Check.letters(x, "00000 a\n"), 120);
        CHECK.due("one more", Check.letters(x, "00000 b\n"), PaperHouse.FULL);
        CHECK.due("bundles", x.bundles(1, 1), 120);
        CHECK.due("the last letter's", x.letter(119, 2), 119);
        CHECK.due("strike", x.strike(119), 119);
        CHECK.due("one more", Check.letters(x, "00000 b\n"), 120);
    }

    private static void limits() {
        House x = new House();
        Check.letters(x, "12345 abc\n");
        CHECK.due("letter(1, 0)", x.letter(1, 0), PaperHouse.NONE);
        CHECK.due("letter(-1, 0)", x.letter(-1, 0), PaperHouse.NONE);
        CHECK.due("letter(1, 2)", x.letter(1, 2), PaperHouse.NONE);
        CHECK.due("letter(-1, 2)", x.letter(-1, 2), PaperHouse.NONE);
        for (int what = 4; what < 10; what++) {
            CHECK.due("letter(0, " + what + ")", x.letter(0, what), PaperHouse.NONE);
        }
        CHECK.due("letter(0, -1)", x.letter(0, -1), PaperHouse.NONE);
        CHECK.due("letter(0, 13)", x.letter(0, 13), PaperHouse.NONE);
        CHECK.due("letter(0, most)", x.letter(0, Integer.MAX_VALUE), PaperHouse.NONE);
        CHECK.due("letter(0, least)", x.letter(0, Integer.MIN_VALUE), PaperHouse.NONE);
        CHECK.due("bundles(0, 1)", x.bundles(0, 1), PaperHouse.NONE);
        CHECK.due("bundles(1, 0)", x.bundles(1, 0), PaperHouse.NONE);
        CHECK.due("bundles(3, 2)", x.bundles(3, 2), PaperHouse.NONE);
        CHECK.due("bundles(1, 31)", x.bundles(1, 31), PaperHouse.NONE);
        CHECK.due("bundles(31, 31)", x.bundles(31, 31), PaperHouse.NONE);
        CHECK.due("they stay", x.bundle(0, 0), 2);
        CHECK.due("bundles(30, 30)", x.bundles(30, 30), 1);
        CHECK.due("bundles(1, 30)", x.bundles(1, 30), 1);
        CHECK.due("direct now", x.bundle(0, 0), 0);
        CHECK.due("bundle(1, 0)", x.bundle(1, 0), PaperHouse.NONE);
        CHECK.due("bundle(-1, 0)", x.bundle(-1, 0), PaperHouse.NONE);
        CHECK.due("bundle(0, 3)", x.bundle(0, 3), PaperHouse.NONE);
        CHECK.due("bundle(0, -1)", x.bundle(0, -1), PaperHouse.NONE);
        CHECK.due("strike(1)", x.strike(1), PaperHouse.NONE);
        CHECK.due("strike(-1)", x.strike(-1), PaperHouse.NONE);
        CHECK.due("strike(0)", x.strike(0), 0);
        CHECK.due("no bundles", x.count(12), 0);
    }

    private static String many(String code, int from, int many) {
        StringBuilder text = new StringBuilder();
        for (int i = from; i < from + many; i++) {
            text.append(code).append(" ").append((char) ('a' + i)).append('\n');
        }
        return text.toString();
    }

    private static void bundle(House x, int k, int kind, int size, int first) {
        CHECK.due("bundle " + k + " kind", x.bundle(k, 0), kind);
        CHECK.due("bundle " + k + " size", x.bundle(k, 1), size);
        CHECK.due("bundle " + k + " first", x.bundle(k, 2), first);
    }

    private static void bundlesAtFirst() {
        House x = new House();
        Check.letters(x, many("20000", 0, 14));
        CHECK.due("10 and 4", x.count(12), 2);
        bundle(x, 0, 0, 10, 0);
        bundle(x, 1, 0, 4, 10);
        x.strike(0);
        CHECK.due("10 and 3", x.count(12), 2);
        bundle(x, 0, 0, 10, 0);
        bundle(x, 1, 2, 3, 10);
    }

    private static void threeKinds() {
        House x = new House();
        Check.letters(x, many("10001", 0, 4) + many("10002", 0, 2) + many("10099", 0, 3) + many("10100", 0, 1)
                + many("20000", 0, 7) + many("20001", 0, 1) + many("30000", 0, 1));
        CHECK.due("bundles", x.bundles(3, 3), 7);
        bundle(x, 0, 0, 3, 0);
        bundle(x, 1, 0, 3, 6);
        bundle(x, 2, 0, 3, 10);
        bundle(x, 3, 0, 3, 13);
        bundle(x, 4, 1, 3, 3);
        bundle(x, 5, 2, 3, 9);
        bundle(x, 6, 2, 1, 18);
        int[] due = {0, 0, 0, 4, 4, 4, 1, 1, 1, 5, 2, 2, 2, 3, 3, 3, 5, 5, 6};
        for (int i = 0; i < due.length; i++) {
            CHECK.due("bundle of " + i, x.letter(i, 2), due[i]);
        }
    }

    private static void anyLists() {
        Random random = new Random(29);
        for (int run = 0; run < 60; run++) {
            Model model = new Model();
            for (int step = 0; step < 60 && model.x.room() >= 40; step++) {
                model.step(random);
            }
        }
    }

    /** THE LIST as the texts of its LETTERS, and BUNDLES as lists of them. */
    private static final class Model {
        private final House x = new House();
        private final List<String> inOrderOfComing = new ArrayList<>();
        private int least = 4;
        private int most = 10;

        void step(Random random) {
            switch (random.nextInt(4)) {
                case 0:
                    int l = 1 + random.nextInt(6);
                    int m = l + random.nextInt(6);
                    least = l;
                    most = m;
                    CHECK.due("bundles", x.bundles(l, m), bundles().size());
                    break;
                case 1:
                    int i = random.nextInt(inOrderOfComing.size() + 1);
                    int due = PaperHouse.NONE;
                    if (i < inOrderOfComing.size()) {
                        inOrderOfComing.remove(sorted().get(i));
                        due = inOrderOfComing.size();
                    }
                    CHECK.due("strike", x.strike(i), due);
                    break;
                default:
                    add(random);
                    break;
            }
            compare();
        }

        private void add(Random random) {
            StringBuilder text = new StringBuilder();
            List<String> after = new ArrayList<>(inOrderOfComing);
            for (int i = random.nextInt(40); i >= 0; i--) {
                String code = "" + (10000 + random.nextInt(4) * 100 + random.nextInt(5));
                StringBuilder name = new StringBuilder().append((char) ('a' + random.nextInt(2)));
                for (int k = random.nextInt(random.nextInt(8) + 1); k > 0; k--) {
                    name.append("ab0".charAt(random.nextInt(3)));
                }
                String letter = code + " " + name;
                text.append(letter).append('\n');
                if (!after.contains(letter)) {
                    after.add(letter);
                }
            }
            int due = PaperHouse.FULL;
            if (after.size() <= 120) {
                inOrderOfComing.clear();
                inOrderOfComing.addAll(after);
                due = after.size();
            }
            CHECK.due("letters", Check.letters(x, text.toString()), due);
        }

        private List<String> sorted() {
            List<String> sorted = new ArrayList<>(inOrderOfComing);
            Collections.sort(sorted, Comparator.naturalOrder());
            return sorted;
        }

        private List<List<String>> bundles() {
            List<String> open = sorted();
            List<List<String>> made = new ArrayList<>();
            int[] digits = {5, 3, 0};
            for (int kind = 0; kind < 3; kind++) {
                TreeMap<String, List<String>> groups = new TreeMap<>();
                for (String letter : open) {
                    groups.computeIfAbsent(letter.substring(0, digits[kind]), key -> new ArrayList<>()).add(letter);
                }
                for (List<String> group : groups.values()) {
                    while (group.size() >= (kind == 2 ? 1 : least)) {
                        List<String> one = new ArrayList<>(group.subList(0, Math.min(most, group.size())));
                        group.subList(0, one.size()).clear();
                        open.removeAll(one);
                        one.add(0, "" + kind);
                        made.add(one);
                    }
                }
            }
            return made;
        }

        private void compare() {
            List<String> sorted = sorted();
            CHECK.due("count(11)", x.count(11), sorted.size());
            for (int i = 0; i < sorted.size(); i++) {
                String letter = sorted.get(i);
                CHECK.due("code", x.letter(i, 0), Integer.parseInt(letter.substring(0, 5)));
                CHECK.due("bytes", x.letter(i, 1), letter.length() - 6);
                CHECK.due("came", x.letter(i, 3), inOrderOfComing.indexOf(letter));
                CHECK.due("last byte", x.letter(i, 10 + letter.length() - 7), letter.charAt(letter.length() - 1));
            }
            List<List<String>> bundles = bundles();
            CHECK.due("count(12)", x.count(12), bundles.size());
            for (int k = 0; k < bundles.size(); k++) {
                List<String> bundle = bundles.get(k);
                CHECK.due("kind", x.bundle(k, 0), Integer.parseInt(bundle.get(0)));
                CHECK.due("size", x.bundle(k, 1), bundle.size() - 1);
                CHECK.due("first", x.bundle(k, 2), sorted.indexOf(bundle.get(1)));
                for (String letter : bundle.subList(1, bundle.size())) {
                    CHECK.due("its bundle", x.letter(sorted.indexOf(letter), 2), k);
                }
            }
        }
    }
}
