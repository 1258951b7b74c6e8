/** Every desk of up to three jobs with ways out of a few, and with any pin, beside the model: all questions. */
public final class SmallDesksTest {
    /** The second collides with the first and the third; the third begins when the first ends. */
    private static final int[] WAYS = {
        Checks.way(0, 0, 2), Checks.way(0, 1, 2), Checks.way(0, 2, 2), Checks.way(1, 0, 1)};
    private static final int DESKS = 4 * 4 * 4 * 4 * 4 * 4;

    private final TwoWayDesk x = new TwoWayDesk();
    private final Model model = new Model();
    private final String where;

    private SmallDesksTest(int desk, int pin) {
        where = "desk " + desk + ", pin " + pin + ": ";
        for (int j = 0; j < 3; j++) {
            int a = WAYS[desk >> 4 * j & 3];
            int b = WAYS[desk >> 4 * j + 2 & 3];
            Checks.due(where + "probe(" + a + ", " + b + ")", x.probe(a, b), model.probe(a, b));
            Checks.due(where + "offer(" + a + ", " + b + ")", x.offer(a, b), model.offer(a, b));
        }
        int j = pin / 2;
        int k = pin % 2;
        Checks.due(where + "pin(" + j + ", " + k + ")", x.pin(j, k), model.pin(j, k));
    }

    public static void main(String[] args) {
        for (int desk = 0; desk < DESKS && Checks.wrongSoFar() == 0; desk++) {
            // Pins 0 to 5 are of the three jobs; there is no job for the last.
            for (int pin = 0; pin < 7; pin++) {
                new SmallDesksTest(desk, pin).ask();
            }
        }
        Checks.end();
    }

    private void ask() {
        Checks.due(where + "jobs()", x.jobs(), model.jobs());
        Checks.due(where + "forcedJobs()", x.forcedJobs(), model.forcedJobs());
        Checks.due(where + "flips()", x.flips(), model.flips());
        for (int j = 0; j < 3; j++) {
            Checks.due(where + "forced(" + j + ")", x.forced(j), model.forced(j));
            Checks.due(where + "planned(" + j + ")", x.planned(j), model.planned(j));
            for (int i = 0; i < 3; i++) {
                askImplies(j, i);
            }
        }
        for (int t = 0; t < 4; t++) {
            Checks.due(where + "alwaysTaken(0, " + t + ")", x.alwaysTaken(0, t), model.alwaysTaken(0, t));
        }
        for (int a : WAYS) {
            Checks.due(where + "couldKeepFree(" + a + ")", x.couldKeepFree(a), model.couldKeepFree(a));
        }
    }

    private void askImplies(int j, int i) {
        for (int ways = 0; ways < 4; ways++) {
            int k = ways / 2;
            int m = ways % 2;
            String call = "implies(" + j + ", " + k + ", " + i + ", " + m + ")";
            Checks.due(where + call, x.implies(j, k, i, m), model.implies(j, k, i, m));
        }
    }
}
