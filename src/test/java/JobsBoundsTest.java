/** The boundary cases of Part IX and of promises 35 to 40, sentence by sentence. */
public final class JobsBoundsTest {
    private static final Check CHECK = new Check();
    private static final int MIN = Integer.MIN_VALUE;
    private static final int MAX = Integer.MAX_VALUE;

    public static void main(String[] args) {
        colours();
        printAndBindTimes();
        dueTimes();
        refusedJobsDoNotCome();
        atMostSix();
        timesBounds();
        refusedTimesChangeNothing();
        timesAtFirst();
        dropBounds();
        thoseBehindHaveANumberLess();
        orderBounds();
        whenBounds();
        changeOfColour();
        bindingWaits();
        lateIsZeroAtLeast();
        leastSumOfLate();
        leastEndOfThoseAsLate();
        firstByNumbers();
        longestTimes();
        oneJob();
        noJobs();
        orderFollowsTheJobs();
        countBounds();
        CHECK.finish();
    }

    /** "A colour 0 .. 3." */
    private static void colours() {
        for (int colour = 0; colour <= 3; colour++) {
            CHECK.due("colour " + colour, new House().job(colour, 1, 1, 0), 0);
        }
        for (int colour : new int[] {-1, 4, 5, MIN, MAX}) {
            CHECK.none("colour " + colour, new House().job(colour, 1, 1, 0));
        }
    }

    /** "A time on MACHINE 0 (print) and on MACHINE 1 (bind), 1 .. 99 each." */
    private static void printAndBindTimes() {
        for (int time : new int[] {1, 2, 98, 99}) {
            House x = new House();
            CHECK.due("print " + time, x.job(0, time, 1, 0), 0);
            CHECK.due("its end", x.when(0, 1), time);
            House y = new House();
            CHECK.due("bind " + time, y.job(0, 1, time, 0), 0);
            CHECK.due("its end", y.when(0, 3), 1 + time);
        }
        for (int time : new int[] {0, -1, 100, 101, MIN, MAX}) {
            CHECK.none("print " + time, new House().job(0, time, 1, 0));
            CHECK.none("bind " + time, new House().job(0, 1, time, 0));
        }
    }

    /** "A time it is DUE, 0 .. 999." */
    private static void dueTimes() {
        for (int due : new int[] {0, 1, 998, 999}) {
            House x = new House();
            CHECK.due("due " + due, x.job(0, 1, 1, due), 0);
            CHECK.due("late", x.when(0, 4), Math.max(0, 2 - due));
        }
        for (int due : new int[] {-1, 1000, 1001, MIN, MAX}) {
            CHECK.none("due " + due, new House().job(0, 1, 1, due));
        }
    }

    private static void refusedJobsDoNotCome() {
        int[][] refused = {{4, 1, 1, 0}, {-1, 1, 1, 0}, {0, 0, 1, 0}, {0, 100, 1, 0}, {0, 1, 0, 0}, {0, 1, 100, 0},
            {0, 1, 1, -1}, {0, 1, 1, 1000}};
        for (int[] job : refused) {
            House x = new House();
            x.job(1, 5, 6, 7);
            CHECK.none("refused", x.job(job[0], job[1], job[2], job[3]));
            CHECK.due("one job", x.count(13), 1);
            CHECK.due("its end", x.count(1), 11);
            CHECK.none("no second", x.order(1));
            CHECK.due("the next number", x.job(0, 1, 1, 0), 1);
        }
    }

    /** "JOBS, at most 6"; "FULL (6)"; a NONE goes ahead. */
    private static void atMostSix() {
        House x = new House();
        for (int i = 0; i < 6; i++) {
            CHECK.due("count", x.count(13), i);
            CHECK.due("job " + i, x.job(i % 4, 1 + i, 1 + i, i), i);
        }
        CHECK.due("a seventh", x.job(0, 1, 1, 0), PaperHouse.FULL);
        CHECK.due("six", x.count(13), 6);
        CHECK.none("NONE ahead of FULL: colour", x.job(4, 1, 1, 0));
        CHECK.none("NONE ahead of FULL: print", x.job(0, 0, 1, 0));
        CHECK.none("NONE ahead of FULL: bind", x.job(0, 1, 100, 0));
        CHECK.none("NONE ahead of FULL: due", x.job(0, 1, 1, 1000));
        int end = x.count(1);
        CHECK.due("FULL changes nothing", x.job(3, 99, 99, 0), PaperHouse.FULL);
        CHECK.due("the end stays", x.count(1), end);
        CHECK.due("drop(5)", x.drop(5), 5);
        CHECK.due("one comes again", x.job(0, 1, 1, 0), 5);
        CHECK.due("a seventh again", x.job(0, 1, 1, 0), PaperHouse.FULL);
    }

    /** "CHANGE time (0 .. 50 ..)", "DRY time (0 .. 50 ..)". */
    private static void timesBounds() {
        House x = new House();
        for (int time : new int[] {0, 1, 49, 50}) {
            CHECK.due("times(" + time + ", 0)", x.times(time, 0), 1);
            CHECK.due("times(0, " + time + ")", x.times(0, time), 1);
            CHECK.due("times(" + time + ", " + time + ")", x.times(time, time), 1);
        }
        for (int time : new int[] {-1, 51, 52, MIN, MAX}) {
            CHECK.none("times(" + time + ", 0)", x.times(time, 0));
            CHECK.none("times(0, " + time + ")", x.times(0, time));
            CHECK.none("times(50, " + time + ")", x.times(50, time));
        }
    }

    private static void refusedTimesChangeNothing() {
        int[][] refused = {{51, 3}, {-1, 3}, {3, 51}, {3, -1}, {51, 51}};
        for (int[] times : refused) {
            House x = new House();
            x.times(10, 20);
            x.job(0, 1, 1, 0);
            x.job(1, 1, 1, 0);
            CHECK.due("end", x.count(1), 1 + 10 + 1 + 20 + 1);
            CHECK.none("refused", x.times(times[0], times[1]));
            CHECK.due("end stays", x.count(1), 33);
            x.job(1, 1, 1, 0);
            CHECK.due("for a new job, too", x.count(1), 34);
        }
    }

    /** "5 at first", "0 at first". */
    private static void timesAtFirst() {
        House x = new House();
        x.job(0, 10, 1, 0);
        x.job(1, 10, 1, 999);
        CHECK.due("no DRY time", x.when(0, 2), 10);
        CHECK.due("CHANGE 5", x.when(1, 0), 15);
        CHECK.due("times(0, 0)", x.times(0, 0), 1);
        CHECK.due("CHANGE 0", x.when(1, 0), 10);
        CHECK.due("a change of colour all the same", x.count(2), 1);
        CHECK.due("times(50, 50)", x.times(50, 50), 1);
        CHECK.due("DRY 50", x.when(0, 2), 60);
        CHECK.due("CHANGE 50", x.when(1, 0), 60);
    }

    /** "A JOB goes .. how many there are; NONE." */
    private static void dropBounds() {
        House x = new House();
        for (int job : new int[] {-1, 0, 1}) {
            CHECK.none("of none: drop(" + job + ")", x.drop(job));
        }
        for (int i = 0; i < 6; i++) {
            x.job(0, 1, 1, 0);
        }
        for (int job : new int[] {-1, 6, 7, MIN, MAX}) {
            CHECK.none("drop(" + job + ")", x.drop(job));
        }
        CHECK.due("six stay", x.count(13), 6);
        for (int left = 5; left >= 0; left--) {
            CHECK.none("one behind the last", x.drop(left + 1));
            CHECK.due("the last", x.drop(left), left);
        }
        CHECK.none("of none", x.drop(0));
    }

    private static void thoseBehindHaveANumberLess() {
        for (int gone = 0; gone < 6; gone++) {
            House x = new House();
            for (int i = 0; i < 6; i++) {
                x.job(i / 2, 10 + i, 20 + i, 20 * i);
            }
            CHECK.due("drop(" + gone + ")", x.drop(gone), 5);
            int late = 0;
            for (int i = 0; i < 5; i++) {
                int was = i < gone ? i : i + 1;
                CHECK.due("print of " + i, x.when(i, 1) - x.when(i, 0), 10 + was);
                CHECK.due("binding of " + i, x.when(i, 3) - x.when(i, 2), 20 + was);
                CHECK.due("LATE of " + i, x.when(i, 4), Math.max(0, x.when(i, 3) - 20 * was));
                late += x.when(i, 4);
            }
            CHECK.due("sum of LATE", x.count(0), late);
            for (int k = 1; k < 5; k++) {
                int ahead = x.order(k - 1);
                int job = x.order(k);
                int colour = (job < gone ? job : job + 1) / 2;
                boolean other = colour != (ahead < gone ? ahead : ahead + 1) / 2;
                CHECK.due("CHANGE ahead of " + job, x.when(job, 0) - x.when(ahead, 1), other ? 5 : 0);
            }
            CHECK.none("the sixth", x.when(5, 0));
            CHECK.due("the next number", x.job(0, 1, 1, 0), 5);
        }
    }

    /** "The k-th JOB in it, from 0 on; NONE if there is none such." */
    private static void orderBounds() {
        House x = new House();
        for (int jobs = 0; jobs <= 6; jobs++) {
            boolean[] seen = new boolean[6];
            for (int k = 0; k < jobs; k++) {
                int job = x.order(k);
                CHECK.due("order(" + k + ") of " + jobs, job >= 0 && job < jobs && !seen[job]);
                seen[Math.max(0, Math.min(5, job))] = true;
            }
            for (int k : new int[] {-1, jobs, jobs + 1, 6, 7, MIN, MAX}) {
                CHECK.none("order(" + k + ") of " + jobs, x.order(k));
            }
            if (jobs < 6) {
                x.job(jobs % 4, 6 - jobs, 1 + jobs, 10 * (6 - jobs));
            }
        }
    }

    /** "What 0 .. 4. NONE if there is none such." */
    private static void whenBounds() {
        House x = new House();
        for (int jobs = 0; jobs <= 6; jobs++) {
            for (int what = 0; what <= 4; what++) {
                for (int job = 0; job < jobs; job++) {
                    CHECK.due("when(" + job + ", " + what + ")", x.when(job, what) >= 0);
                }
                for (int job : new int[] {-1, jobs, jobs + 1, 6, MIN, MAX}) {
                    CHECK.none("when(" + job + ", " + what + ") of " + jobs, x.when(job, what));
                }
            }
            for (int what : new int[] {-1, 5, 6, MIN, MAX}) {
                CHECK.none("when(0, " + what + ") of " + jobs, x.when(0, what));
                CHECK.none("when(last, " + what + ") of " + jobs, x.when(jobs - 1, what));
            }
            if (jobs < 6) {
                x.job(0, 3, 3, 0);
            }
        }
    }

    /** "Ahead of one whose colour is another one than that of the one before"; "the first JOB has no CHANGE". */
    private static void changeOfColour() {
        for (int colour = 0; colour <= 3; colour++) {
            House x = new House();
            x.times(50, 0);
            x.job(2, 10, 1, 0);
            x.job(colour, 10, 1, 999);
            CHECK.due("the first begins at 0", x.when(0, 0), 0);
            CHECK.due("the second, " + colour + " behind 2", x.when(1, 0), colour == 2 ? 10 : 60);
            CHECK.due("changes", x.count(2), colour == 2 ? 0 : 1);
        }
        House y = new House();
        y.times(0, 0);
        for (int i = 0; i < 6; i++) {
            y.job(i % 2, 1, 1, 0);
        }
        CHECK.due("each another colour", y.count(2), 5);
        y.times(1, 0);
        CHECK.due("a CHANGE time makes it one", y.count(2), 1);
    }

    /** "As soon as it is printed, DRY time has gone by, and MACHINE 1 is free": either may be the later one. */
    private static void bindingWaits() {
        for (int bind = 18; bind <= 22; bind++) {
            House x = new House();
            x.times(0, 5);
            x.job(0, 1, bind, 0);
            x.job(0, 20, 1, 999);
            CHECK.due("the first is bound from 6 on", x.when(0, 2), 6);
            CHECK.due("its end", x.when(0, 3), 6 + bind);
            CHECK.due("the second is printed at 21", x.when(1, 1), 21);
            CHECK.due("and bound", x.when(1, 2), Math.max(26, 6 + bind));
        }
    }

    /** "LATE is 0 at least." */
    private static void lateIsZeroAtLeast() {
        for (int due = 18; due <= 22; due++) {
            House x = new House();
            x.job(0, 10, 10, due);
            CHECK.due("due " + due, x.when(0, 4), Math.max(0, 20 - due));
            CHECK.due("sum", x.count(0), Math.max(0, 20 - due));
        }
        House y = new House();
        y.job(0, 1, 1, 999);
        y.job(0, 1, 50, 2);
        CHECK.due("one early, one late: the early one takes nothing off", y.count(0), 49);
    }

    /** "The least sum of all LATE", though the end is later. */
    private static void leastSumOfLate() {
        House x = new House();
        x.job(0, 1, 9, 999);
        x.job(0, 9, 1, 10);
        CHECK.due("the one that is DUE first", x.order(0), 1);
        CHECK.due("none is late", x.count(0), 0);
        CHECK.due("the end", x.count(1), 19);
        House y = new House();
        y.job(0, 1, 9, 999);
        y.job(0, 9, 1, 11);
        CHECK.due("DUE one later: the earlier end", y.order(0), 0);
        CHECK.due("none is late", y.count(0), 0);
        CHECK.due("the end", y.count(1), 11);
    }

    /** "Then the least end of the last one." */
    private static void leastEndOfThoseAsLate() {
        House x = new House();
        x.job(0, 9, 1, 999);
        x.job(0, 1, 9, 999);
        CHECK.due("first", x.order(0), 1);
        CHECK.due("end", x.count(1), 11);
        House y = new House();
        y.job(0, 5, 5, 999);
        y.job(1, 5, 5, 999);
        y.job(0, 5, 5, 999);
        int[] due = {0, 2, 1};
        for (int k = 0; k < 3; k++) {
            CHECK.due("one change only: order(" + k + ")", y.order(k), due[k]);
        }
        CHECK.due("end", y.count(1), 25);
        CHECK.due("changes", y.count(2), 1);
    }

    /** "Then it is the first by the jobs' numbers in it." */
    private static void firstByNumbers() {
        for (int jobs = 1; jobs <= 6; jobs++) {
            House x = new House();
            for (int i = 0; i < jobs; i++) {
                x.job(1, 7, 7, 999);
            }
            for (int k = 0; k < jobs; k++) {
                CHECK.due("order(" + k + ") of " + jobs, x.order(k), k);
            }
        }
        House y = new House();
        y.job(0, 2, 1, 999);
        y.job(0, 2, 2, 999);
        y.job(0, 1, 2, 999);
        int[] due = {2, 1, 0};
        for (int k = 0; k < 3; k++) {
            CHECK.due("the last one by the end alone: order(" + k + ")", y.order(k), due[k]);
        }
        CHECK.due("end", y.count(1), 6);
    }

    private static void longestTimes() {
        House x = new House();
        x.times(50, 50);
        for (int i = 0; i < 6; i++) {
            x.job(i % 4, 99, 99, 0);
        }
        CHECK.due("end: six prints, three changes, DRY and a binding", x.count(1), 6 * 99 + 3 * 50 + 50 + 99);
        CHECK.due("changes", x.count(2), 3);
        int late = 0;
        for (int i = 0; i < 6; i++) {
            CHECK.due("LATE by all its time", x.when(i, 4), x.when(i, 3));
            late += x.when(i, 4);
        }
        CHECK.due("sum", x.count(0), late);
    }

    private static void oneJob() {
        House x = new House();
        x.times(50, 50);
        x.job(3, 4, 5, 6);
        int[] due = {0, 4, 54, 59, 53};
        for (int what = 0; what < 5; what++) {
            CHECK.due("when(0, " + what + ")", x.when(0, what), due[what]);
        }
        CHECK.due("order(0)", x.order(0), 0);
        CHECK.none("order(1)", x.order(1));
        CHECK.due("no changes", x.count(2), 0);
    }

    /** Count 1: "(0 without JOBS)". */
    private static void noJobs() {
        House x = new House();
        for (int round = 0; round < 2; round++) {
            CHECK.due("LATE", x.count(0), 0);
            CHECK.due("end", x.count(1), 0);
            CHECK.due("changes", x.count(2), 0);
            CHECK.due("JOBS", x.count(13), 0);
            CHECK.none("order(0)", x.order(0));
            CHECK.none("when(0, 0)", x.when(0, 0));
            x.job(0, 9, 9, 0);
            x.job(1, 9, 9, 0);
            CHECK.due("LATE", x.count(0) > 0);
            x.drop(0);
            x.drop(0);
        }
    }

    /** THE BEST ORDER is that of the JOBS and times as they are, behind every change. */
    private static void orderFollowsTheJobs() {
        House x = new House();
        x.job(0, 9, 1, 999);
        CHECK.due("end", x.count(1), 10);
        x.job(0, 1, 9, 999);
        CHECK.due("first", x.order(0), 1);
        CHECK.due("end", x.count(1), 11);
        x.times(0, 3);
        CHECK.due("DRY", x.count(1), 14);
        x.drop(1);
        CHECK.due("first", x.order(0), 0);
        CHECK.due("end", x.count(1), 13);
        x.drop(0);
        CHECK.due("end", x.count(1), 0);
        x.job(2, 1, 1, 0);
        CHECK.due("LATE", x.count(0), 5);
    }

    /** "NONE for another what", and each what of 0 .. 13 by a house in which all differ. */
    private static void countBounds() {
        House x = new House();
        for (int what : new int[] {-1, -2, 14, 15, 100, MIN, MAX}) {
            CHECK.none("count(" + what + ")", x.count(what));
        }
        Check.cut(x, "roll 60 1\ncut 50 9\ncut 51 5\n");
        Check.fold(x, "sheet 4 4\nfold lltt\n");
        x.book(7, 0, 1);
        x.mount(0, 0);
        x.aim(0, 0, 6);
        x.print(30);
        for (int i = 0; i < 10; i++) {
            Check.set(x, 20, "a\n");
        }
        Check.pile(x, 90, 90, "x 0 1\nx 1 1\nx 2 1\nx 3 1\nx 4 1\nx 5 1\nx 6 1\nx 7 1\nx 8 1\nx 9 1\nx 10 1\n");
        StringBuilder letters = new StringBuilder();
        for (int i = 0; i < 13; i++) {
            letters.append(10000 + i * 100).append(" a\n");
        }
        Check.letters(x, letters.toString());
        x.bundles(6, 6);
        for (int i = 0; i < 4; i++) {
            x.job(i < 2 ? 0 : 3, 10, 10, 0);
        }
        int[] due = {20 + 30 + 45 + 55, 55, 1, 14, 9 * 10 + 5 * 9, 16, 7, 30, 25, 10, 12, 13, 3, 4};
        for (int what = 0; what < due.length; what++) {
            CHECK.due("count(" + what + ")", x.count(what), due[what]);
        }
        for (int what : new int[] {-1, 14}) {
            CHECK.none("count(" + what + ")", x.count(what));
        }
    }
}
