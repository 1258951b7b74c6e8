import java.util.ArrayList;
import java.util.List;
import java.util.function.Consumer;
import java.util.function.Supplier;

/** Tells whether calls changed anything, by all that can be seen of a desk. */
final class Looks {
    private Looks() {
    }

    /** Two desks are made alike, and the calls, made on one of them, must not tell them apart. */
    static void changesNothing(String what, Supplier<TwoWayDesk> made, Consumer<TwoWayDesk> calls) {
        TwoWayDesk x = made.get();
        calls.accept(x);
        same(what + " changes nothing", x, made.get());
    }

    /** It is the last use of both. */
    static void same(String what, TwoWayDesk got, TwoWayDesk want) {
        List<String> seen = lastLook(got);
        List<String> due = lastLook(want);
        for (int n = 0; n < due.size(); n++) {
            Checks.due(what + ": " + seen.get(n) + ", without it " + due.get(n), seen.get(n).equals(due.get(n)), true);
        }
    }

    /** Some 270 calls, of the 512 of an object. The last of them take the pins away: nothing else tells of each one. */
    private static List<String> lastLook(TwoWayDesk x) {
        List<String> seen = new ArrayList<>();
        seen.add("jobs() " + x.jobs());
        seen.add("forcedJobs() " + x.forcedJobs());
        seen.add("flips() " + x.flips());
        lookAtJobs(x, seen);
        lookAtMachines(x, seen);
        lookAtRoom(x, seen);
        for (int j = 0; j < 8; j++) {
            seen.add("unpin(" + j + ") " + x.unpin(j));
        }
        lookAtRoom(x, seen);
        return seen;
    }

    private static void lookAtJobs(TwoWayDesk x, List<String> seen) {
        for (int j = 0; j < 8; j++) {
            seen.add("forced(" + j + ") " + x.forced(j));
            seen.add("planned(" + j + ") " + x.planned(j));
            for (int k = 0; k < 2; k++) {
                seen.add("way(" + j + ", " + k + ") " + x.way(j, k));
                for (int i = 0; i < 8; i++) {
                    seen.add("implies(" + j + ", " + k + ", " + i + ", 1) " + x.implies(j, k, i, 1));
                }
            }
        }
    }

    private static void lookAtMachines(TwoWayDesk x, List<String> seen) {
        for (int m = 0; m < 3; m++) {
            for (int t = 0; t < 20; t++) {
                seen.add("alwaysTaken(" + m + ", " + t + ") " + x.alwaysTaken(m, t));
            }
            for (int end = 2; end <= 20; end += 2) {
                int a = Checks.way(m, 0, end);
                seen.add("couldKeepFree(" + a + ") " + x.couldKeepFree(a));
            }
        }
    }

    private static void lookAtRoom(TwoWayDesk x, List<String> seen) {
        int[] some = {Checks.way(0, 0, 1), Checks.way(1, 19, 1), Edges.ALL_2};
        for (int a : some) {
            seen.add("probe(" + a + ", " + a + ") " + x.probe(a, a));
        }
    }
}
