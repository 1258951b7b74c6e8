/** The boundary cases of promises 8 to 16: one method for each sentence that names one. */
public final class AnswerBoundaryTest {
    private static final int ALL_0 = Edges.ALL_0;
    private static final int ALL_1 = Edges.ALL_1;
    private static final int ALL_2 = Edges.ALL_2;
    private static final int NONE = TwoWayDesk.NONE;
    private static final int[] NO_MACHINE = {
        -1, 3, -2, -4, 4, 5, 8, 32, 256, 1 << 30, Edges.LEAST, Edges.LEAST + 1, Edges.GREATEST - 1, Edges.GREATEST};
    private static final int[] NO_HOUR = {
        -1, 20, -2, -20, -32, 21, 31, 32, 33, 256, 1 << 27, 1 << 30, Edges.LEAST, Edges.LEAST + 1,
        Edges.GREATEST - 1, Edges.GREATEST};

    public static void main(String[] args) {
        jobsAnswers();
        waysThatAreNone();
        forcedAnswers();
        impliesAnswers();
        plannedAnswers();
        alwaysTakenAnswers();
        couldKeepFreeAnswers();
        forcedJobsAnswers();
        flipsAnswers();
        questionsChangeNothing();
        Checks.end();
    }

    // Promise 8

    private static void jobsAnswers() {
        jobsOfTheEmptyDeskAndTheFullOne();
        jobsAreBits0To7();
    }

    private static void jobsOfTheEmptyDeskAndTheFullOne() {
        Checks.due("8: none", new TwoWayDesk().jobs(), 0);
        Checks.due("8: all", Edges.eight().jobs(), 255);
    }

    private static void jobsAreBits0To7() {
        for (int j = 0; j < 8; j++) {
            Checks.due("8: " + j + " alone", only(j).jobs(), 1 << j);
            TwoWayDesk x = Edges.eight();
            x.withdraw(j);
            Checks.due("8: all but " + j, x.jobs(), 255 - (1 << j));
        }
    }

    // Promise 9

    private static void waysThatAreNone() {
        wayIsNoneWithoutTheJob();
        wayIsNonePastTheNumbers();
        wayIsNoneForAnotherK();
        wayIsNoneAfterARefusedOffer();
    }

    private static void wayIsNoneWithoutTheJob() {
        for (int j = 0; j < 8; j++) {
            TwoWayDesk x = Edges.eight();
            x.withdraw(j);
            Checks.due("9: way(" + j + ", 0)", x.way(j, 0), NONE);
            Checks.due("9: way(" + j + ", 1)", x.way(j, 1), NONE);
        }
    }

    private static void wayIsNonePastTheNumbers() {
        TwoWayDesk full = Edges.eight();
        for (int j : Edges.NO_JOB) {
            for (int k = 0; k < 2; k++) {
                Checks.due("9: full, way(" + j + ", " + k + ")", full.way(j, k), NONE);
                Checks.due("9: empty, way(" + j + ", " + k + ")", new TwoWayDesk().way(j, k), NONE);
            }
        }
    }

    private static void wayIsNoneForAnotherK() {
        TwoWayDesk x = Edges.eight();
        for (int k : Edges.NO_CHOICE) {
            for (int j = 0; j < 8; j++) {
                Checks.due("9: way(" + j + ", " + k + ")", x.way(j, k), NONE);
            }
        }
    }

    private static void wayIsNoneAfterARefusedOffer() {
        TwoWayDesk x = Edges.tight();
        x.offer(ALL_0, ALL_1);
        x.probe(ALL_2, ALL_2);
        Checks.due("9: way 0 of nobody", x.way(2, 0), NONE);
        Checks.due("9: way 1 of nobody", x.way(2, 1), NONE);
    }

    // Promise 10

    private static void forcedAnswers() {
        forcedIsNoneWithoutTheJob();
        forcedIsNonePastTheNumbers();
        forcedIsNoneWithPlansForEither();
        forcedIsNoneForEqualWays();
        forcedIsTheWayOfEveryPlan();
    }

    private static void forcedIsNoneWithoutTheJob() {
        for (int k = 0; k < 2; k++) {
            for (int j = 0; j < 8; j++) {
                TwoWayDesk x = Edges.eightPinnedTo(k);
                x.withdraw(j);
                Checks.due("10: forced(" + j + ")", x.forced(j), NONE);
                Checks.due("10: the empty desk, forced(" + j + ")", new TwoWayDesk().forced(j), NONE);
            }
        }
    }

    private static void forcedIsNonePastTheNumbers() {
        TwoWayDesk x = Edges.eightPinnedTo(0);
        TwoWayDesk y = Edges.eightPinnedTo(1);
        for (int j : Edges.NO_JOB) {
            Checks.due("10: all 0, forced(" + j + ")", x.forced(j), NONE);
            Checks.due("10: all 1, forced(" + j + ")", y.forced(j), NONE);
        }
    }

    private static void forcedIsNoneWithPlansForEither() {
        TwoWayDesk x = Edges.eight();
        for (int j = 0; j < 8; j++) {
            Checks.due("10: free, forced(" + j + ")", x.forced(j), NONE);
        }
        // Only two plans, and each job has one way in the one and the other in the other.
        TwoWayDesk y = Edges.tight();
        Checks.due("10: two plans, forced(0)", y.forced(0), NONE);
        Checks.due("10: two plans, forced(1)", y.forced(1), NONE);
        // The plans 0 0, 0 1 and 1 0: the last of them differs from the first in job 0 alone.
        TwoWayDesk z = new TwoWayDesk();
        z.offer(ALL_0, ALL_2);
        z.offer(ALL_1, ALL_2);
        Checks.due("10: three plans, forced(0)", z.forced(0), NONE);
        Checks.due("10: three plans, forced(1)", z.forced(1), NONE);
        Checks.due("15: three plans", z.forcedJobs(), 0);
    }

    private static void forcedIsNoneForEqualWays() {
        TwoWayDesk x = new TwoWayDesk();
        x.offer(ALL_1, ALL_1);
        Checks.due("10: equal ways", x.forced(0), NONE);
    }

    private static void forcedIsTheWayOfEveryPlan() {
        for (int j = 0; j < 8; j++) {
            // A job that has machine 2 leaves this one with its other way.
            TwoWayDesk x = Edges.eight();
            x.change((j + 1) % 8, 0, ALL_2);
            x.change((j + 1) % 8, 1, ALL_2);
            x.change(j, 0, Checks.way(2, j, 1));
            Checks.due("10: forced(" + j + ") to 1", x.forced(j), 1);
            x.change(j, 0, Checks.way(0, j, 1));
            x.change(j, 1, Checks.way(2, j, 1));
            Checks.due("10: forced(" + j + ") to 0", x.forced(j), 0);
        }
    }

    // Promise 11

    private static void impliesAnswers() {
        impliesIsFalseWithoutTheJob();
        impliesIsFalsePastTheNumbers();
        impliesIsFalseForAnotherKOrM();
        impliesIsTrueWhenNoPlanChoosesIt();
        impliesOfAJobAndItself();
        impliesIsFalseForOnePlanAgainstIt();
    }

    private static void impliesIsFalseWithoutTheJob() {
        for (int j = 0; j < 8; j++) {
            TwoWayDesk x = Edges.eightPinnedTo(0);
            x.withdraw(j);
            int there = (j + 1) % 8;
            for (int k = 0; k < 2; k++) {
                Checks.due("11: no job j = " + j, x.implies(j, k, there, 0), false);
                Checks.due("11: no job i = " + j, x.implies(there, 0, j, k), false);
                // No plan chooses way 1 of the other job, which is no reason for true here.
                Checks.due("11: no job i = " + j + ", no plan", x.implies(there, 1, j, k), false);
                Checks.due("11: no job j = i = " + j, x.implies(j, k, j, k), false);
            }
        }
    }

    private static void impliesIsFalsePastTheNumbers() {
        for (int j : Edges.NO_JOB) {
            TwoWayDesk x = Edges.eightPinnedTo(0);
            for (int k = 0; k < 2; k++) {
                Checks.due("11: implies(" + j + ", " + k + ", 0, 0)", x.implies(j, k, 0, 0), false);
                Checks.due("11: implies(0, " + k + ", " + j + ", 0)", x.implies(0, k, j, 0), false);
                Checks.due("11: implies(0, 1, " + j + ", " + k + ")", x.implies(0, 1, j, k), false);
                Checks.due("11: implies(" + j + ", " + k + ", itself)", x.implies(j, k, j, k), false);
            }
        }
    }

    private static void impliesIsFalseForAnotherKOrM() {
        for (int k : Edges.NO_CHOICE) {
            TwoWayDesk x = Edges.eightPinnedTo(0);
            for (int i = 0; i < 8; i++) {
                Checks.due("11: implies(3, " + k + ", " + i + ", 0)", x.implies(3, k, i, 0), false);
                Checks.due("11: implies(3, 0, " + i + ", " + k + ")", x.implies(3, 0, i, k), false);
                Checks.due("11: implies(3, 1, " + i + ", " + k + ")", x.implies(3, 1, i, k), false);
                Checks.due("11: implies(3, k, " + i + ", k) for " + k, x.implies(3, k, i, k), false);
            }
        }
    }

    private static void impliesIsTrueWhenNoPlanChoosesIt() {
        TwoWayDesk pinned = Edges.eightPinnedTo(1);
        for (int i = 0; i < 8; i++) {
            Checks.due("11: past a pin, " + i + " has 0", pinned.implies(5, 0, i, 0), true);
            Checks.due("11: past a pin, " + i + " has 1", pinned.implies(5, 0, i, 1), true);
        }
        TwoWayDesk forced = Edges.mixed();
        for (int i = 0; i < 4; i++) {
            Checks.due("11: past the others, " + i + " has 0", forced.implies(2, 0, i, 0), true);
            Checks.due("11: past the others, " + i + " has 1", forced.implies(2, 0, i, 1), true);
        }
    }

    private static void impliesOfAJobAndItself() {
        TwoWayDesk x = Edges.eight();
        x.pin(7, 1);
        for (int j = 0; j < 8; j++) {
            Checks.due("11: 0 and 0 of " + j, x.implies(j, 0, j, 0), true);
            Checks.due("11: 1 and 1 of " + j, x.implies(j, 1, j, 1), true);
            Checks.due("11: 0 and 1 of " + j, x.implies(j, 0, j, 1), j == 7);
            Checks.due("11: 1 and 0 of " + j, x.implies(j, 1, j, 0), false);
        }
    }

    private static void impliesIsFalseForOnePlanAgainstIt() {
        TwoWayDesk x = Edges.eightPinnedTo(1);
        x.unpin(7);
        Checks.due("11: two plans", x.implies(0, 1, 7, 1), false);
        Checks.due("11: two plans", x.implies(0, 1, 7, 0), false);
        Checks.due("11: one of the two", x.implies(7, 0, 0, 1), true);
        x.pin(7, 1);
        Checks.due("11: the last choice of all", x.implies(0, 1, 7, 1), true);
        Checks.due("11: the last choice of all", x.implies(0, 1, 7, 0), false);
        TwoWayDesk y = Edges.eightPinnedTo(0);
        Checks.due("11: the first choice of all", y.implies(0, 0, 7, 0), true);
        Checks.due("11: the first choice of all", y.implies(0, 0, 7, 1), false);
    }

    // Promise 12

    private static void plannedAnswers() {
        plannedIsNoneWithoutTheJob();
        plannedIsNonePastTheNumbers();
        plannedGoesByTheNumbersOfTheJobs();
        plannedComparesZeroAndOne();
        plannedFromTheFirstChoiceToTheLast();
    }

    private static void plannedIsNoneWithoutTheJob() {
        for (int j = 0; j < 8; j++) {
            TwoWayDesk x = Edges.eightPinnedTo(j % 2);
            x.withdraw(j);
            Checks.due("12: planned(" + j + ")", x.planned(j), NONE);
            Checks.due("12: the empty desk, planned(" + j + ")", new TwoWayDesk().planned(j), NONE);
        }
    }

    private static void plannedIsNonePastTheNumbers() {
        TwoWayDesk x = Edges.eightPinnedTo(0);
        TwoWayDesk y = Edges.eightPinnedTo(1);
        for (int j : Edges.NO_JOB) {
            Checks.due("12: all 0, planned(" + j + ")", x.planned(j), NONE);
            Checks.due("12: all 1, planned(" + j + ")", y.planned(j), NONE);
        }
    }

    private static void plannedGoesByTheNumbersOfTheJobs() {
        for (int low = 0; low < 8; low++) {
            for (int high = low + 1; high < 8; high++) {
                // Both want machine 2, and the one with the lower number has it.
                TwoWayDesk x = Edges.eight();
                x.change(high, 0, ALL_2);
                x.change(low, 0, ALL_2);
                Checks.due("12: planned(" + low + ") before " + high, x.planned(low), 0);
                Checks.due("12: planned(" + high + ") after " + low, x.planned(high), 1);
            }
        }
    }

    private static void plannedComparesZeroAndOne() {
        TwoWayDesk x = new TwoWayDesk();
        x.offer(ALL_2, Checks.way(0, 0, 1));
        Checks.due("12: way 0 with the greater number", x.planned(0), 0);
        TwoWayDesk y = new TwoWayDesk();
        y.offer(ALL_0, ALL_0);
        Checks.due("12: equal ways", y.planned(0), 0);
    }

    private static void plannedFromTheFirstChoiceToTheLast() {
        for (int k = 0; k < 2; k++) {
            TwoWayDesk x = Edges.eightPinnedTo(k);
            for (int j = 0; j < 8; j++) {
                Checks.due("12: all " + k + ", planned(" + j + ")", x.planned(j), k);
            }
        }
    }

    // Promise 13

    private static void alwaysTakenAnswers() {
        alwaysTakenIsFalseForNoMachine();
        alwaysTakenIsFalseForNoHour();
        alwaysTakenWithinTheBounds();
        alwaysTakenIsFalseOnTheEmptyDesk();
        alwaysTakenByDifferentJobs();
        alwaysTakenIsFalseForOnePlanAgainstIt();
    }

    private static void alwaysTakenIsFalseForNoMachine() {
        for (int m : NO_MACHINE) {
            TwoWayDesk x = Edges.allTaken();
            for (int t = -1; t <= 20; t++) {
                Checks.due("13: alwaysTaken(" + m + ", " + t + ")", x.alwaysTaken(m, t), false);
            }
        }
    }

    private static void alwaysTakenIsFalseForNoHour() {
        for (int t : NO_HOUR) {
            TwoWayDesk x = Edges.allTaken();
            for (int m = -1; m <= 3; m++) {
                Checks.due("13: alwaysTaken(" + m + ", " + t + ")", x.alwaysTaken(m, t), false);
            }
        }
    }

    private static void alwaysTakenWithinTheBounds() {
        TwoWayDesk x = Edges.allTaken();
        for (int m = 0; m < 3; m++) {
            for (int t = 0; t < 20; t++) {
                Checks.due("13: alwaysTaken(" + m + ", " + t + ")", x.alwaysTaken(m, t), true);
            }
        }
    }

    private static void alwaysTakenIsFalseOnTheEmptyDesk() {
        TwoWayDesk x = new TwoWayDesk();
        for (int m = 0; m < 3; m++) {
            for (int t = 0; t < 20; t++) {
                Checks.due("13: empty, alwaysTaken(" + m + ", " + t + ")", x.alwaysTaken(m, t), false);
            }
        }
    }

    private static void alwaysTakenByDifferentJobs() {
        TwoWayDesk x = Edges.tight();
        Checks.due("13: by either job", x.alwaysTaken(0, 19), true);
        Checks.due("13: by either job", x.alwaysTaken(1, 0), true);
        x.withdraw(0);
        Checks.due("13: by one job alone", x.alwaysTaken(0, 19), false);
    }

    private static void alwaysTakenIsFalseForOnePlanAgainstIt() {
        TwoWayDesk x = Edges.eightPinnedTo(0);
        Checks.due("13: all pinned", x.alwaysTaken(0, 7), true);
        x.unpin(7);
        Checks.due("13: all but job 7", x.alwaysTaken(0, 7), false);
        Checks.due("13: not by the other way", x.alwaysTaken(1, 7), false);
    }

    // Promise 14

    private static void couldKeepFreeAnswers() {
        couldKeepFreeIsFalseForNoWay();
        couldKeepFreeOnTheEmptyDesk();
        couldKeepFreeWhenAllIsTaken();
        couldKeepFreeBesideAWay();
        couldKeepFreeInTheLastPlanAlone();
        couldKeepFreeNeedsOnePlanForTheWholeWay();
        couldKeepFreeOnTheFullDesk();
    }

    private static void couldKeepFreeIsFalseForNoWay() {
        TwoWayDesk full = Edges.eight();
        for (int a : Edges.NO_WAY) {
            Checks.due("14: empty, couldKeepFree(" + a + ")", new TwoWayDesk().couldKeepFree(a), false);
            Checks.due("14: full, couldKeepFree(" + a + ")", full.couldKeepFree(a), false);
        }
    }

    private static void couldKeepFreeOnTheEmptyDesk() {
        for (int m = 0; m < 3; m++) {
            TwoWayDesk x = new TwoWayDesk();
            for (int start = 0; start < 20; start++) {
                int a = Checks.way(m, start, 20 - start);
                Checks.due("14: empty, couldKeepFree(" + a + ")", x.couldKeepFree(a), true);
            }
        }
    }

    private static void couldKeepFreeWhenAllIsTaken() {
        TwoWayDesk x = Edges.allTaken();
        for (int m = 0; m < 3; m++) {
            for (int t = 0; t < 20; t++) {
                int a = Checks.way(m, t, 1);
                Checks.due("14: all taken, couldKeepFree(" + a + ")", x.couldKeepFree(a), false);
            }
        }
    }

    private static void couldKeepFreeBesideAWay() {
        int middle = Checks.way(1, 8, 4);
        TwoWayDesk x = new TwoWayDesk();
        x.offer(middle, middle);
        Checks.due("14: up to its start", x.couldKeepFree(Checks.way(1, 0, 8)), true);
        Checks.due("14: into it", x.couldKeepFree(Checks.way(1, 0, 9)), false);
        Checks.due("14: from its end", x.couldKeepFree(Checks.way(1, 12, 8)), true);
        Checks.due("14: out of it", x.couldKeepFree(Checks.way(1, 11, 9)), false);
        Checks.due("14: around it", x.couldKeepFree(ALL_1), false);
        Checks.due("14: machine 0", x.couldKeepFree(ALL_0), true);
        Checks.due("14: machine 2", x.couldKeepFree(ALL_2), true);
    }

    private static void couldKeepFreeInTheLastPlanAlone() {
        TwoWayDesk x = Edges.eight();
        Checks.due("14: when all have way 1", x.couldKeepFree(ALL_0), true);
        Checks.due("14: when all have way 0", x.couldKeepFree(ALL_1), true);
        x.pin(7, 0);
        Checks.due("14: with a pin", x.couldKeepFree(ALL_0), false);
        Checks.due("14: but that of job 7", x.couldKeepFree(Checks.way(0, 0, 7)), true);
    }

    private static void couldKeepFreeNeedsOnePlanForTheWholeWay() {
        TwoWayDesk x = new TwoWayDesk();
        x.offer(Checks.way(0, 18, 1), Checks.way(0, 19, 1));
        Checks.due("14: the one hour", x.couldKeepFree(Checks.way(0, 18, 1)), true);
        Checks.due("14: the other", x.couldKeepFree(Checks.way(0, 19, 1)), true);
        Checks.due("14: both", x.couldKeepFree(Checks.way(0, 18, 2)), false);
    }

    /** It is a question about the plans, not an offer: it is not too much for eight jobs. */
    private static void couldKeepFreeOnTheFullDesk() {
        TwoWayDesk x = Edges.eight();
        Checks.due("14: machine 2", x.couldKeepFree(ALL_2), true);
    }

    // Promise 15

    private static void forcedJobsAnswers() {
        forcedJobsOfTheEmptyDesk();
        forcedJobsOfTheFullDesk();
        forcedJobsByPinsAndWithout();
        forcedJobsLeavesEqualWaysOut();
        forcedJobsCountsPresentJobs();
    }

    private static void forcedJobsOfTheEmptyDesk() {
        Checks.due("15: empty", new TwoWayDesk().forcedJobs(), 0);
    }

    private static void forcedJobsOfTheFullDesk() {
        Checks.due("15: eight free", Edges.eight().forcedJobs(), 0);
        Checks.due("15: eight pinned to 0", Edges.eightPinnedTo(0).forcedJobs(), 8);
        Checks.due("15: eight pinned to 1", Edges.eightPinnedTo(1).forcedJobs(), 8);
    }

    private static void forcedJobsByPinsAndWithout() {
        Checks.due("15: forced without a pin", Edges.mixed().forcedJobs(), 1);
        Checks.due("15: a pin that forces another", Edges.tightAndPinned().forcedJobs(), 2);
    }

    private static void forcedJobsLeavesEqualWaysOut() {
        Checks.due("15: equal ways", Edges.allTaken().forcedJobs(), 0);
    }

    private static void forcedJobsCountsPresentJobs() {
        for (int j = 0; j < 8; j++) {
            TwoWayDesk x = Edges.eightPinnedTo(0);
            x.withdraw(j);
            Checks.due("15: without " + j, x.forcedJobs(), 7);
            TwoWayDesk y = Edges.eight();
            y.pin(j, 1);
            Checks.due("15: only " + j, y.forcedJobs(), 1);
        }
    }

    // Promises 16 and 17

    private static void flipsAnswers() {
        flipsOfTheEmptyDesk();
        flipsOfTheFullDesk();
        flipsOfOneJobAtATime();
        flipsOfEqualWays();
        flipsOfPresentJobsWithoutAPin();
        flipsThatCollide();
        flipsAreFromTheFirstPlan();
    }

    private static void flipsOfTheEmptyDesk() {
        Checks.due("16: empty", new TwoWayDesk().flips(), 0);
    }

    private static void flipsOfTheFullDesk() {
        Checks.due("16: eight free", Edges.eight().flips(), 8);
        Checks.due("16: eight pinned to 0", Edges.eightPinnedTo(0).flips(), 0);
        Checks.due("16: eight pinned to 1", Edges.eightPinnedTo(1).flips(), 0);
    }

    private static void flipsOfOneJobAtATime() {
        Checks.due("16: the second plan differs in both", Edges.tight().flips(), 0);
    }

    private static void flipsOfEqualWays() {
        Checks.due("17: both ways the same number", Edges.allTaken().flips(), 3);
    }

    private static void flipsOfPresentJobsWithoutAPin() {
        for (int j = 0; j < 8; j++) {
            Checks.due("16: " + j + " alone", only(j).flips(), 1);
            TwoWayDesk x = Edges.eight();
            x.pin(j, 1);
            Checks.due("16: " + j + " pinned", x.flips(), 7);
            x.withdraw(j);
            Checks.due("16: all but " + j, x.flips(), 7);
        }
    }

    private static void flipsThatCollide() {
        TwoWayDesk x = new TwoWayDesk();
        x.offer(ALL_0, ALL_1);
        x.offer(ALL_0, ALL_2);
        Checks.due("16: from 0, 1 only job 0 can flip", x.flips(), 1);
        x.change(1, 0, ALL_1);
        Checks.due("16: from 0, 0 only job 1 can flip", x.flips(), 1);
    }

    private static void flipsAreFromTheFirstPlan() {
        TwoWayDesk x = new TwoWayDesk();
        // First plan 0, 0, 0; job 0 can move only when the two others do.
        x.offer(ALL_0, ALL_1);
        x.offer(Checks.way(1, 0, 1), Checks.way(2, 0, 1));
        x.offer(Checks.way(1, 1, 1), Checks.way(2, 1, 1));
        Checks.due("16: the two others", x.flips(), 2);
        x.pin(0, 1);
        Checks.due("16: from the plan 1, 1, 1", x.flips(), 0);
    }

    private static void questionsChangeNothing() {
        Looks.changesNothing("8 to 16: questions", Edges::eightAndPins, AnswerBoundaryTest::askAll);
        Looks.changesNothing("8 to 16: questions", Edges::mixed, AnswerBoundaryTest::askAll);
        Looks.changesNothing("8 to 16: questions", TwoWayDesk::new, AnswerBoundaryTest::askAll);
    }

    private static void askAll(TwoWayDesk x) {
        x.jobs();
        x.forcedJobs();
        x.flips();
        for (int n : new int[] {Edges.LEAST, -1, 0, 1, 2, 7, 8, 20, ALL_0, Edges.GREATEST}) {
            x.way(n, 0);
            x.way(0, n);
            x.forced(n);
            x.planned(n);
            x.implies(n, 0, 1, 0);
            x.implies(0, n, 1, 0);
            x.implies(0, 0, n, 0);
            x.implies(0, 0, 1, n);
            x.alwaysTaken(n, 0);
            x.alwaysTaken(0, n);
            x.couldKeepFree(n);
        }
    }

    /** A desk with job j alone. */
    private static TwoWayDesk only(int j) {
        TwoWayDesk x = Edges.eight();
        for (int i = 0; i < 8; i++) {
            if (i != j) {
                x.withdraw(i);
            }
        }
        return x;
    }
}
