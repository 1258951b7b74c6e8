/** Runs of the 512 calls an object is good for, beside the model; the same runs each time. */
public final class ModelTest {
    private static final int RUNS = 150;
    private static final int CALLS = 512;
    private static final int[] ODD = {-1, 2, 3, 8, 20, 21, 32, -128, 1 << 30, Integer.MIN_VALUE, Integer.MAX_VALUE};

    private long seed;
    private final int longest;
    private final TwoWayDesk x = new TwoWayDesk();
    private final Model model = new Model();

    private ModelTest(int run) {
        seed = 7919L * run + 1;
        // From short ways, with many plans, to long ways, with few.
        longest = 1 + run % 14;
    }

    public static void main(String[] args) {
        for (int run = 0; run < RUNS && Checks.wrongSoFar() == 0; run++) {
            ModelTest test = new ModelTest(run);
            for (int call = 0; call < CALLS; call++) {
                test.step("run " + run + ", call " + call + ": ");
            }
        }
        Checks.end();
    }

    private int below(int bound) {
        seed = seed * 6364136223846793005L + 1442695040888963407L;
        return (int) ((seed >>> 33) % bound);
    }

    private int number(int bound) {
        return below(40) == 0 ? ODD[below(ODD.length)] : below(bound);
    }

    private int someWay() {
        if (below(30) == 0) {
            return below(2) == 0 ? below(3000) : ODD[below(ODD.length)];
        }
        int length = 1 + below(longest);
        return Checks.way(below(3), below(21 - length), length);
    }

    private void step(String where) {
        int kind = below(40);
        if (kind < 20) {
            changingCall(where, kind);
        } else {
            askingCall(where, kind);
        }
    }

    private void changingCall(String where, int kind) {
        int j = number(8);
        int k = number(2);
        int a = someWay();
        int b = below(8) == 0 ? a : someWay();
        if (kind < 9) {
            Checks.due(where + "offer(" + a + ", " + b + ")", x.offer(a, b), model.offer(a, b));
        } else if (kind < 11) {
            Checks.due(where + "withdraw(" + j + ")", x.withdraw(j), model.withdraw(j));
        } else if (kind < 14) {
            Checks.due(where + "change(" + j + ", " + k + ", " + a + ")", x.change(j, k, a), model.change(j, k, a));
        } else if (kind < 17) {
            Checks.due(where + "pin(" + j + ", " + k + ")", x.pin(j, k), model.pin(j, k));
        } else {
            Checks.due(where + "unpin(" + j + ")", x.unpin(j), model.unpin(j));
        }
    }

    private void askingCall(String where, int kind) {
        int j = number(8);
        int k = number(2);
        int a = someWay();
        switch (kind) {
            case 20, 21 -> {
                int b = someWay();
                Checks.due(where + "probe(" + a + ", " + b + ")", x.probe(a, b), model.probe(a, b));
            }
            case 22 -> Checks.due(where + "jobs()", x.jobs(), model.jobs());
            case 23 -> Checks.due(where + "way(" + j + ", " + k + ")", x.way(j, k), model.way(j, k));
            case 24, 25 -> Checks.due(where + "forced(" + j + ")", x.forced(j), model.forced(j));
            case 26, 27, 28, 29 -> {
                int i = number(8);
                int m = number(2);
                String call = "implies(" + j + ", " + k + ", " + i + ", " + m + ")";
                Checks.due(where + call, x.implies(j, k, i, m), model.implies(j, k, i, m));
            }
            case 30, 31 -> Checks.due(where + "planned(" + j + ")", x.planned(j), model.planned(j));
            case 32, 33 -> {
                int m = number(3);
                int t = number(20);
                Checks.due(where + "alwaysTaken(" + m + ", " + t + ")", x.alwaysTaken(m, t), model.alwaysTaken(m, t));
            }
            case 34, 35 -> Checks.due(where + "couldKeepFree(" + a + ")", x.couldKeepFree(a), model.couldKeepFree(a));
            case 36, 37 -> Checks.due(where + "forcedJobs()", x.forcedJobs(), model.forcedJobs());
            default -> Checks.due(where + "flips()", x.flips(), model.flips());
        }
    }
}
