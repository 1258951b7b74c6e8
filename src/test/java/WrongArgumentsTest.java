import java.util.List;
import java.util.function.Supplier;

/** Wrong arguments in every combination: one of them is enough for the answer, and nothing changes. */
public final class WrongArgumentsTest {
    private static final int[] SOME = {
        Edges.LEAST, -129, -1, 0, 1, 2, 3, 7, 8, 19, 20, 129, Edges.ALL_2, Edges.GREATEST};
    /** With the calls that make a desk and those of the last look it stays below 512. */
    private static final int CALLS = 200;

    private final Supplier<TwoWayDesk> made;
    private final int present;
    private TwoWayDesk x;
    private int calls;

    private WrongArgumentsTest(Supplier<TwoWayDesk> made) {
        this.made = made;
        present = made.get().jobs();
        x = made.get();
    }

    public static void main(String[] args) {
        List<Supplier<TwoWayDesk>> desks = List.of(
            TwoWayDesk::new, Edges::mixed, Edges::tightAndPinned, Edges::eightAndPins);
        for (Supplier<TwoWayDesk> made : desks) {
            WrongArgumentsTest test = new WrongArgumentsTest(made);
            test.oneArgument();
            test.twoArguments();
            test.threeArguments();
            test.fourArguments();
            test.endOfDesk();
        }
        Checks.end();
    }

    private void oneArgument() {
        for (int a : SOME) {
            if (!hasJob(a)) {
                Checks.due("withdraw(" + a + ")", desk().withdraw(a), false);
                Checks.due("unpin(" + a + ")", desk().unpin(a), false);
                Checks.due("forced(" + a + ")", desk().forced(a), TwoWayDesk.NONE);
                Checks.due("planned(" + a + ")", desk().planned(a), TwoWayDesk.NONE);
            }
            if (!isWay(a)) {
                Checks.due("couldKeepFree(" + a + ")", desk().couldKeepFree(a), false);
            }
        }
    }

    private void twoArguments() {
        for (int a : SOME) {
            for (int b : SOME) {
                String both = "(" + a + ", " + b + ")";
                if (!isWay(a) || !isWay(b)) {
                    Checks.due("offer" + both, desk().offer(a, b), TwoWayDesk.BAD);
                    Checks.due("probe" + both, desk().probe(a, b), TwoWayDesk.BAD);
                }
                if (!hasJob(a) || !isChoice(b)) {
                    Checks.due("pin" + both, desk().pin(a, b), TwoWayDesk.BAD);
                    Checks.due("way" + both, desk().way(a, b), TwoWayDesk.NONE);
                }
                if (a < 0 || a > 2 || b < 0 || b > 19) {
                    Checks.due("alwaysTaken" + both, desk().alwaysTaken(a, b), false);
                }
            }
        }
    }

    private void threeArguments() {
        for (int j : SOME) {
            for (int k : SOME) {
                for (int a : SOME) {
                    if (!hasJob(j) || !isChoice(k) || !isWay(a)) {
                        Checks.due("change(" + j + ", " + k + ", " + a + ")", desk().change(j, k, a), TwoWayDesk.BAD);
                    }
                }
            }
        }
    }

    private void fourArguments() {
        for (int j : SOME) {
            for (int k : SOME) {
                for (int i : SOME) {
                    for (int m : SOME) {
                        if (!hasJob(j) || !isChoice(k) || !hasJob(i) || !isChoice(m)) {
                            String all = "(" + j + ", " + k + ", " + i + ", " + m + ")";
                            Checks.due("implies" + all, desk().implies(j, k, i, m), false);
                        }
                    }
                }
            }
        }
    }

    private boolean hasJob(int j) {
        return j >= 0 && j < 8 && (present & 1 << j) != 0;
    }

    private static boolean isChoice(int k) {
        return k == 0 || k == 1;
    }

    /** Of the numbers used here. */
    private static boolean isWay(int a) {
        return a == 129 || a == Edges.ALL_2;
    }

    private TwoWayDesk desk() {
        if (calls == CALLS) {
            endOfDesk();
            x = made.get();
            calls = 0;
        }
        calls++;
        return x;
    }

    private void endOfDesk() {
        Looks.same("wrong arguments change nothing", x, made.get());
    }
}
