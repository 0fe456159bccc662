import java.util.ArrayList;
import java.util.List;
import java.util.Random;

/** Promises 35 to 39, and counts 0, 1, 2 and 13 of promise 40. */
public final class JobsTest {
    private static final Check CHECK = new Check();

    public static void main(String[] args) {
        limits();
        changeAndDry();
        ties();
        anyJobs();
        CHECK.finish();
    }

    private static void limits() {
        House x = new House();
        CHECK.due("job(4, 1, 1, 0)", x.job(4, 1, 1, 0), PaperHouse.NONE);
        CHECK.due("job(-1, 1, 1, 0)", x.job(-1, 1, 1, 0), PaperHouse.NONE);
        CHECK.due("job(0, 0, 1, 0)", x.job(0, 0, 1, 0), PaperHouse.NONE);
        CHECK.due("job(0, 100, 1, 0)", x.job(0, 100, 1, 0), PaperHouse.NONE);
        CHECK.due("job(0, 1, 0, 0)", x.job(0, 1, 0, 0), PaperHouse.NONE);
        CHECK.due("job(0, 1, 100, 0)", x.job(0, 1, 100, 0), PaperHouse.NONE);
        CHECK.due("job(0, 1, 1, -1)", x.job(0, 1, 1, -1), PaperHouse.NONE);
        CHECK.due("job(0, 1, 1, 1000)", x.job(0, 1, 1, 1000), PaperHouse.NONE);
        CHECK.due("none came", x.count(13), 0);
        CHECK.due("times(51, 0)", x.times(51, 0), PaperHouse.NONE);
        CHECK.due("times(-1, 0)", x.times(-1, 0), PaperHouse.NONE);
        CHECK.due("times(0, 51)", x.times(0, 51), PaperHouse.NONE);
        CHECK.due("times(0, -1)", x.times(0, -1), PaperHouse.NONE);
        CHECK.due("job(0, 1, 1, 0)", x.job(0, 1, 1, 0), 0);
        CHECK.due("job(3, 99, 99, 999)", x.job(3, 99, 99, 999), 1);
        for (int i = 2; i < 6; i++) {
            CHECK.due("job " + i, x.job(0, 1, 1, 0), i);
        }
        CHECK.due("a seventh", x.job(0, 1, 1, 0), PaperHouse.FULL);
        CHECK.due("NONE ahead of FULL", x.job(9, 1, 1, 0), PaperHouse.NONE);
        CHECK.due("order(6)", x.order(6), PaperHouse.NONE);
        CHECK.due("order(-1)", x.order(-1), PaperHouse.NONE);
        CHECK.due("when(6, 0)", x.when(6, 0), PaperHouse.NONE);
        CHECK.due("when(-1, 0)", x.when(-1, 0), PaperHouse.NONE);
        CHECK.due("when(0, 5)", x.when(0, 5), PaperHouse.NONE);
        CHECK.due("when(0, -1)", x.when(0, -1), PaperHouse.NONE);
        CHECK.due("drop(6)", x.drop(6), PaperHouse.NONE);
        CHECK.due("drop(-1)", x.drop(-1), PaperHouse.NONE);
        for (int left = 5; left >= 0; left--) {
            CHECK.due("drop(0)", x.drop(0), left);
        }
        CHECK.due("drop(0) of none", x.drop(0), PaperHouse.NONE);
        for (int what = 0; what < 3; what++) {
            CHECK.due("count of none", x.count(what), 0);
        }
    }

    private static void changeAndDry() {
        House x = new House();
        x.job(0, 10, 20, 0);
        x.job(1, 10, 20, 999);
        int[][] due = {{0, 10, 10, 30, 30}, {15, 25, 30, 50, 0}};
        for (int i = 0; i < 10; i++) {
            CHECK.due("when " + i, x.when(i / 5, i % 5), due[i / 5][i % 5]);
        }
        CHECK.due("times", x.times(50, 7), 1);
        int[][] later = {{0, 10, 17, 37, 37}, {60, 70, 77, 97, 0}};
        for (int i = 0; i < 10; i++) {
            CHECK.due("later " + i, x.when(i / 5, i % 5), later[i / 5][i % 5]);
        }
        CHECK.due("times that can't be", x.times(51, 51), PaperHouse.NONE);
        CHECK.due("they stay", x.count(1), 97);
        CHECK.due("changes", x.count(2), 1);
        CHECK.due("drop", x.drop(0), 1);
        CHECK.due("the second one is the first", x.when(0, 3), 37);
        CHECK.due("no change ahead of the first", x.when(0, 0), 0);
        CHECK.due("no changes", x.count(2), 0);
    }

    private static void ties() {
        House x = new House();
        for (int i = 0; i < 6; i++) {
            x.job(2, 5, 5, 999);
        }
        for (int i = 0; i < 6; i++) {
            CHECK.due("all alike: by number " + i, x.order(i), i);
        }
        House y = new House();
        y.job(0, 9, 1, 999);
        y.job(0, 1, 9, 999);
        CHECK.due("none is late: the earlier end", y.order(0), 1);
        CHECK.due("its end", y.count(1), 11);
        CHECK.due("late in all", y.count(0), 0);
    }

    private static void anyJobs() {
        Random random = new Random(31);
        for (int run = 0; run < 300; run++) {
            House x = new House();
            List<int[]> jobs = new ArrayList<>();
            int change = 5;
            int dry = 0;
            for (int step = 0; step < 12; step++) {
                int what = random.nextInt(8);
                if (what == 0) {
                    change = random.nextInt(51);
                    dry = random.nextInt(51);
                    CHECK.due("times", x.times(change, dry), 1);
                } else if (what == 1 && !jobs.isEmpty()) {
                    int gone = random.nextInt(jobs.size());
                    jobs.remove(gone);
                    CHECK.due("drop", x.drop(gone), jobs.size());
                } else if (jobs.size() < 6) {
                    int span = 1 + random.nextInt(99);
                    int[] job = {random.nextInt(4), 1 + random.nextInt(span), 1 + random.nextInt(span),
                        random.nextInt(random.nextBoolean() ? 1000 : 4 * span)};
                    CHECK.due("job", x.job(job[0], job[1], job[2], job[3]), jobs.size());
                    jobs.add(job);
                }
                if (random.nextInt(3) == 0) {
                    new AllOrders(jobs, change, dry).compare(x);
                }
            }
        }
    }

    /** Looks at all orders, the first by numbers first, each one reckoned to its end. */
    private static final class AllOrders {
        private final List<int[]> jobs;
        private final int change;
        private final int dry;
        private long bestValue = Long.MAX_VALUE;
        private int[] best = {};

        AllOrders(List<int[]> jobs, int change, int dry) {
            this.jobs = jobs;
            this.change = change;
            this.dry = dry;
        }

        void compare(House x) {
            permute(new ArrayList<>());
            int[][] times = reckon(best);
            int late = 0;
            int end = 0;
            int changes = 0;
            for (int k = 0; k < best.length; k++) {
                CHECK.due("order", x.order(k), best[k]);
                late += times[best[k]][4];
                end = Math.max(end, times[best[k]][3]);
                changes += k > 0 && jobs.get(best[k])[0] != jobs.get(best[k - 1])[0] ? 1 : 0;
                for (int what = 0; what < 5; what++) {
                    CHECK.due("when", x.when(best[k], what), times[best[k]][what]);
                }
            }
            CHECK.due("count(0)", x.count(0), late);
            CHECK.due("count(1)", x.count(1), end);
            CHECK.due("count(2)", x.count(2), changes);
            CHECK.due("count(13)", x.count(13), jobs.size());
        }

        private void permute(List<Integer> order) {
            if (order.size() == jobs.size()) {
                int[] row = order.stream().mapToInt(Integer::intValue).toArray();
                long late = 0;
                long end = 0;
                for (int[] one : reckon(row)) {
                    late += one[4];
                    end = Math.max(end, one[3]);
                }
                if (late * 100000 + end < bestValue) {
                    bestValue = late * 100000 + end;
                    best = row;
                }
                return;
            }
            for (int i = 0; i < jobs.size(); i++) {
                if (!order.contains(i)) {
                    order.add(i);
                    permute(order);
                    order.remove(order.size() - 1);
                }
            }
        }

        private int[][] reckon(int[] order) {
            int[][] times = new int[order.length][5];
            int before = -1;
            for (int i : order) {
                int[] job = jobs.get(i);
                int free = before < 0 ? 0 : times[before][1];
                boolean other = before >= 0 && jobs.get(before)[0] != job[0];
                times[i][0] = free + (other ? change : 0);
                times[i][1] = times[i][0] + job[1];
                times[i][2] = Math.max(times[i][1] + dry, before < 0 ? 0 : times[before][3]);
                times[i][3] = times[i][2] + job[2];
                times[i][4] = Math.max(0, times[i][3] - job[3]);
                before = i;
            }
            return times;
        }
    }
}
