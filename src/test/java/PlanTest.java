/** What "Terms" says of collisions, plans and pins, for every pair of ways and every pair of jobs. */
public final class PlanTest {
    private static final int[][] ALL_WAYS = allWays();

    public static void main(String[] args) {
        everyPairOfWays();
        noTwoChosenWaysCollide();
        threeJobsForTwoPlaces();
        aPlanChoosesForEveryPresentJob();
        aPlanChoosesForNoOtherJob();
        anyOfTheWaysCanBePinned();
        thereIsAlwaysAPlan();
        Checks.end();
    }

    /** Two ways collide when they have the same machine and an hour of it in common. */
    private static void everyPairOfWays() {
        for (int[] a : ALL_WAYS) {
            TwoWayDesk x = new TwoWayDesk();
            for (int n = 0; n < ALL_WAYS.length; n++) {
                if (n % 500 == 0) {
                    x = new TwoWayDesk();
                    x.offer(number(a), number(a));
                }
                int[] b = ALL_WAYS[n];
                String what = number(a) + " is there, couldKeepFree(" + number(b) + ")";
                Checks.due(what, x.couldKeepFree(number(b)), !haveAnHourInCommon(a, b));
            }
        }
    }

    private static void noTwoChosenWaysCollide() {
        for (int j = 0; j < 8; j++) {
            for (int i = 0; i < 8; i++) {
                for (int ways = 0; i != j && ways < 4; ways++) {
                    onlyOneCollision(j, ways / 2, i, ways % 2);
                }
            }
        }
    }

    /** Way k of job j and way m of job i are the only ones of all that collide. */
    private static void onlyOneCollision(int j, int k, int i, int m) {
        TwoWayDesk x = Edges.eight();
        x.change(j, k, Checks.way(2, 3, 4));
        x.change(i, m, Checks.way(2, 6, 4));
        String what = "way " + k + " of job " + j + " hits way " + m + " of job " + i + ": ";
        for (int ways = 0; ways < 4; ways++) {
            int one = ways / 2;
            int other = ways % 2;
            boolean due = one == k && other == 1 - m;
            Checks.due(what + "implies " + one + ", " + other, x.implies(j, one, i, other), due);
        }
        boolean both0 = k == 0 && m == 0;
        Checks.due(what + "planned(" + j + ")", x.planned(j), both0 && j > i ? 1 : 0);
        Checks.due(what + "planned(" + i + ")", x.planned(i), both0 && i > j ? 1 : 0);
        Checks.due(what + "flips()", x.flips(), both0 || k != m ? 7 : 8);
        x.pin(j, k);
        Checks.due(what + "pin to the one", x.forced(i), 1 - m);
        Checks.due(what + "pin to both", x.pin(i, m), TwoWayDesk.REFUSED);
        Checks.due(what + "pin to the one alone", x.pin(i, 1 - m), 1 - m);
    }

    /** Any two of the three go together, yet not all three: pairs alone do not tell of a plan. */
    private static void threeJobsForTwoPlaces() {
        TwoWayDesk x = Edges.tight();
        Checks.due("two go together", x.jobs(), 3);
        Checks.due("a third has no place", x.offer(Edges.ALL_0, Edges.ALL_1), TwoWayDesk.REFUSED);
        x.withdraw(0);
        Checks.due("it goes with job 1", x.offer(Edges.ALL_0, Edges.ALL_1), 0);
        x.withdraw(1);
        Checks.due("it goes with job 0", x.offer(Edges.ALL_0, Edges.ALL_1), 1);
    }

    private static void aPlanChoosesForEveryPresentJob() {
        for (int there = 0; there < 256; there++) {
            TwoWayDesk x = onlyThese(there);
            for (int j = 0; j < 8; j++) {
                boolean present = (there & 1 << j) != 0;
                Checks.due("of " + there + " planned(" + j + ")", x.planned(j), present ? 0 : TwoWayDesk.NONE);
            }
            // Each present job may change its way alone.
            Checks.due("of " + there + " flips()", x.flips(), Integer.bitCount(there));
            Checks.due("of " + there + " forcedJobs()", x.forcedJobs(), 0);
        }
    }

    /** A job that went hinders nobody, whichever way it had. */
    private static void aPlanChoosesForNoOtherJob() {
        for (int j = 0; j < 8; j++) {
            for (int k = 0; k < 2; k++) {
                TwoWayDesk x = Edges.eight();
                x.change(j, k, Edges.ALL_2);
                x.pin(j, k);
                int other = (j + 3) % 8;
                Checks.due("beside job " + j, x.alwaysTaken(2, 10), true);
                x.withdraw(j);
                Checks.due("without job " + j, x.alwaysTaken(2, 10), false);
                Checks.due("without job " + j, x.couldKeepFree(Edges.ALL_2), true);
                Checks.due("way 0 of job " + other, x.change(other, 0, Edges.ALL_2), 0);
                Checks.due("way 1 of job " + other, x.change(other, 1, Edges.ALL_2), 1);
            }
        }
    }

    private static void anyOfTheWaysCanBePinned() {
        for (int ways = 0; ways < 256; ways++) {
            TwoWayDesk x = Edges.eight();
            for (int j = 0; j < 8; j++) {
                int k = ways >> j & 1;
                Checks.due("pins " + ways + ": pin(" + j + ", " + k + ")", x.pin(j, k), k);
            }
            for (int j = 0; j < 8; j++) {
                int k = ways >> j & 1;
                Checks.due("pins " + ways + ": planned(" + j + ")", x.planned(j), k);
                Checks.due("pins " + ways + ": forced(" + j + ")", x.forced(j), k);
            }
            Checks.due("pins " + ways + ": flips()", x.flips(), 0);
        }
    }

    /** Whatever was called, taken in or refused, the planned ways are there and do not collide. */
    private static void thereIsAlwaysAPlan() {
        for (int run = 0; run < 12; run++) {
            TwoWayDesk x = new TwoWayDesk();
            for (int step = 0; step < 20; step++) {
                int mixed = 977 * run + 331 * step;
                int a = number(ALL_WAYS[mixed % ALL_WAYS.length]);
                int b = number(ALL_WAYS[(mixed * 7 + 5) % ALL_WAYS.length]);
                x.offer(a, b);
                x.pin(mixed % 8, mixed / 8 % 2);
                x.change(mixed / 3 % 8, mixed / 5 % 2, a);
                if (step % 5 == 4) {
                    x.unpin(mixed / 7 % 8);
                    x.withdraw(mixed / 11 % 8);
                }
                plannedWaysGoTogether("run " + run + ", step " + step + ": ", x);
            }
        }
    }

    private static void plannedWaysGoTogether(String where, TwoWayDesk x) {
        boolean[] taken = new boolean[60];
        int present = x.jobs();
        for (int j = 0; j < 8; j++) {
            if ((present & 1 << j) == 0) {
                continue;
            }
            int k = x.planned(j);
            Checks.due(where + "job " + j + " has a planned way", k == 0 || k == 1, true);
            int a = x.way(j, k);
            for (int t = a / 4 % 32; t < a / 4 % 32 + a / 128; t++) {
                int hour = a % 4 * 20 + t;
                Checks.due(where + "job " + j + " finds machine " + a % 4 + " taken at " + t, taken[hour], false);
                taken[hour] = true;
            }
        }
    }

    private static TwoWayDesk onlyThese(int there) {
        TwoWayDesk x = Edges.eight();
        for (int j = 0; j < 8; j++) {
            if ((there & 1 << j) == 0) {
                x.withdraw(j);
            }
        }
        return x;
    }

    private static boolean haveAnHourInCommon(int[] a, int[] b) {
        for (int t = a[1]; t < a[1] + a[2]; t++) {
            if (a[0] == b[0] && b[1] <= t && t < b[1] + b[2]) {
                return true;
            }
        }
        return false;
    }

    private static int number(int[] way) {
        return Checks.way(way[0], way[1], way[2]);
    }

    /** Machine, start and length of each. */
    private static int[][] allWays() {
        int[][] all = new int[630][];
        int n = 0;
        for (int m = 0; m < 3; m++) {
            for (int start = 0; start < 20; start++) {
                for (int length = 1; start + length <= 20; length++) {
                    all[n] = new int[] {m, start, length};
                    n++;
                }
            }
        }
        return all;
    }
}
