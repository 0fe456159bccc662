import java.util.ArrayList;
import java.util.List;
import java.util.Random;

/** Promises 4 and 5, and counts 3 and 4 of promise 40. */
public final class RollsTest {
    private static final Check CHECK = new Check();

    public static void main(String[] args) {
        wrongTexts();
        edges();
        wrongChangesNothing();
        anyPlans();
        greatPlans();
        CHECK.finish();
    }

    private static void wrong(String text, int place) {
        House x = new House();
        CHECK.due("cut of " + text.replace("\n", "/"), Check.cut(x, text), -1000 - place);
        CHECK.due("no PLAN behind it", x.count(3), 0);
    }

    private static void wrongTexts() {
        wrong("", 0);
        wrong("rol", 0);
        wrong("roll", 4);
        wrong("rolls 100 5\n", 0);
        wrong("roll1 100 5\n", 0);
        wrong("rolL 100 5\n", 0);
        wrong("rollX100 5\n", 4);
        wrong(" roll 100 5\n", 0);
        wrong("roll ", 5);
        wrong("roll  100 5\n", 5);
        wrong("roll 49 5\n", 5);
        wrong("roll 401 5\n", 5);
        wrong("roll 1", 5);
        wrong("roll 100", 8);
        wrong("roll 050 5\n", 6);
        wrong("roll 0", 5);
        wrong("roll 00", 6);
        wrong("roll 999999 5\n", 5);
        wrong("roll 1000000 5\n", 11);
        wrong("roll 100x5\n", 8);
        wrong("roll 500x5\n", 5);
        wrong("roll 100 0\n", 9);
        wrong("roll 100 7\n", 9);
        wrong("roll 100 5 \n", 10);
        wrong("roll 100 5", 10);
        wrong("roll 100 5\n", 11);
        wrong("roll 100 5\nroll 100 5\n", 11);
        wrong("roll 100 5\ncut 9 1\n", 15);
        wrong("roll 100 5\ncut 101 1\n", 15);
        wrong("roll 100 5\ncut 10 0\n", 18);
        wrong("roll 100 5\ncut 10 10\n", 18);
        wrong("roll 100 5\ncut 10 1", 19);
        wrong("roll 100 5\ncut 10 1\n\n", 20);
        wrong("roll 100 5\ncut 10 1\ncut 10 1\n", 24);
        wrong("roll 100 5\ncut 10 1\ncut 10", 24);
        wrong("roll 100 5\ncut 10 9\ncut 20 8\n", 27);
        wrong("roll 100 5\ncut 10 9\ncut 20 7\ncut 30 1\n", 36);
        wrong("roll 100 5\ncut 10 1\ncut 20 1\ncut 30 1\ncut 40 1\ncut 50 1\n", 47);
        wrong("roll 100 5\ncut 10 1\ncut 20 1\ncut 30 1\ncut 40 1\n!", 47);
    }

    private static void edges() {
        House x = new House();
        CHECK.due("50 wide, all of it", Check.cut(x, "roll 50 1\ncut 50 1\n"), 1);
        CHECK.due("lost", x.pattern(0, -1), 0);
        CHECK.due("400 wide, 1 knife", Check.cut(x, "roll 400 1\ncut 10 9\ncut 11 7\n"), 16);
        CHECK.due("first", x.pattern(0, 0), 1);
        CHECK.due("last", x.pattern(15, 1), 1);
        CHECK.due("lost of the last", x.pattern(15, -1), 389);
        CHECK.due("pattern(16, 0)", x.pattern(16, 0), PaperHouse.NONE);
        CHECK.due("pattern(-1, 0)", x.pattern(-1, 0), PaperHouse.NONE);
        CHECK.due("pattern(0, 2)", x.pattern(0, 2), PaperHouse.NONE);
        CHECK.due("pattern(0, -2)", x.pattern(0, -2), PaperHouse.NONE);
        CHECK.due("lost in all", x.count(4), 9 * 390 + 7 * 389);
        CHECK.due("400 wide, 6 knives", Check.cut(x, "roll 400 6\ncut 10 4\ncut 11 4\ncut 12 4\ncut 13 4\n"), 3);
        int[] due = {4, 2, 0, 0, 0, 2, 4, 0, 0, 0, 0, 4};
        for (int i = 0; i < 12; i++) {
            CHECK.due("plan " + i, x.pattern(i / 4, i % 4), due[i]);
        }
    }

    private static void wrongChangesNothing() {
        House x = new House();
        Check.cut(x, "roll 100 5\ncut 30 4\n");
        CHECK.due("wrong", Check.cut(x, "roll 200 5\ncut 20 4\ncut 30 1"), -1028);
        CHECK.due("rolls stay", x.count(3), 2);
        CHECK.due("patterns stay", x.pattern(0, 0), 3);
        CHECK.due("lost stays", x.pattern(0, -1), 10);
        CHECK.due("widths stay", x.pattern(0, 1), PaperHouse.NONE);
        CHECK.due("lost in all stays", x.count(4), 80);
    }

    private static void anyPlans() {
        Random random = new Random(7);
        House x = new House();
        for (int run = 0; run < 400; run++) {
            x = x.room() < 20 ? new House() : x;
            compare(x, random, 7);
        }
    }

    private static void greatPlans() {
        Random random = new Random(8);
        House x = new House();
        for (int run = 0; run < 60; run++) {
            x = x.room() < 20 ? new House() : x;
            compare(x, random, 11);
        }
    }

    /** Compares THE PLAN with the best one of all plans, each built piece by piece. */
    private static void compare(House x, Random random, int most) {
        int roll = 50 + random.nextInt(60);
        int knives = 1 + random.nextInt(6);
        int kinds = 1 + random.nextInt(4);
        List<Integer> widths = new ArrayList<>();
        int[] wanted = new int[kinds];
        StringBuilder text = new StringBuilder("roll " + roll + " " + knives + "\n");
        int left = most;
        for (int k = 0; k < kinds; k++) {
            int width = 10 + random.nextInt(roll - 9);
            while (widths.contains(width)) {
                width = 10 + random.nextInt(roll - 9);
            }
            widths.add(width);
            wanted[k] = 1 + random.nextInt(Math.max(1, Math.min(9, left - (kinds - 1 - k))));
            left -= wanted[k];
            text.append("cut ").append(width).append(' ').append(wanted[k]).append('\n');
        }
        List<int[]> best = new AllPlans(roll, knives, widths, wanted).best();
        CHECK.due("rolls of " + text, Check.cut(x, text.toString()), best.size());
        int lost = 0;
        for (int i = 0; i < best.size(); i++) {
            int rest = roll;
            for (int k = 0; k < kinds; k++) {
                CHECK.due("pattern " + i + ", " + k + " of " + text, x.pattern(i, k), best.get(i)[k]);
                rest -= best.get(i)[k] * widths.get(k);
            }
            CHECK.due("lost of " + i, x.pattern(i, -1), rest);
            lost += rest;
        }
        CHECK.due("lost in all", x.count(4), lost);
    }

    /** All plans as rows of patterns that never grow, looked at one by one. */
    private static final class AllPlans {
        private final int roll;
        private final int knives;
        private final List<Integer> widths;
        private final int[] wanted;
        private final List<int[]> patterns = new ArrayList<>();
        private List<int[]> best = null;

        AllPlans(int roll, int knives, List<Integer> widths, int[] wanted) {
            this.roll = roll;
            this.knives = knives;
            this.widths = widths;
            this.wanted = wanted;
        }

        List<int[]> best() {
            allPatterns(new int[wanted.length], 0);
            extend(0, wanted.clone(), new ArrayList<>());
            return best;
        }

        private void allPatterns(int[] counts, int k) {
            if (k == wanted.length) {
                int pieces = 0;
                int wide = 0;
                for (int i = 0; i < k; i++) {
                    pieces += counts[i];
                    wide += counts[i] * widths.get(i);
                }
                if (pieces >= 1 && pieces <= knives && wide <= roll) {
                    patterns.add(counts.clone());
                }
                return;
            }
            for (int n = wanted[k]; n >= 0; n--) {
                counts[k] = n;
                allPatterns(counts, k + 1);
            }
        }

        /** Patterns stand the greatest first, so the first plan of some length is the greatest of that length. */
        private void extend(int from, int[] open, List<int[]> plan) {
            boolean done = true;
            for (int n : open) {
                done &= n == 0;
            }
            if (done) {
                if (best == null || plan.size() < best.size()) {
                    best = new ArrayList<>(plan);
                }
                return;
            }
            if (best != null && plan.size() + 1 >= best.size()) {
                return;
            }
            for (int i = from; i < patterns.size(); i++) {
                int[] rest = open.clone();
                boolean fits = true;
                for (int k = 0; k < rest.length; k++) {
                    rest[k] -= patterns.get(i)[k];
                    fits &= rest[k] >= 0;
                }
                if (fits) {
                    plan.add(patterns.get(i));
                    extend(i, rest, plan);
                    plan.remove(plan.size() - 1);
                }
            }
        }
    }
}
