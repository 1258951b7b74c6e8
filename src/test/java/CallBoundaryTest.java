import java.util.List;
import java.util.function.Supplier;

/** The boundary cases of promises 1 to 7 and 17: one method for each sentence that names one. */
public final class CallBoundaryTest {
    private static final int ALL_0 = Edges.ALL_0;
    private static final int ALL_1 = Edges.ALL_1;
    private static final int ALL_2 = Edges.ALL_2;
    private static final int BAD = TwoWayDesk.BAD;
    private static final int FULL = TwoWayDesk.FULL;
    private static final int REFUSED = TwoWayDesk.REFUSED;
    private static final int NONE = TwoWayDesk.NONE;

    public static void main(String[] args) {
        newObjectHasNoJobs();
        newObjectStandsAlone();
        offers();
        probes();
        withdrawals();
        changes();
        pins();
        unpins();
        Checks.end();
    }

    // Promise 1

    private static void newObjectHasNoJobs() {
        TwoWayDesk x = new TwoWayDesk();
        Checks.due("1: jobs()", x.jobs(), 0);
        Checks.due("1: forcedJobs()", x.forcedJobs(), 0);
        Checks.due("1: flips()", x.flips(), 0);
        for (int j = 0; j < 8; j++) {
            Checks.due("1: withdraw(" + j + ")", x.withdraw(j), false);
            Checks.due("1: unpin(" + j + ")", x.unpin(j), false);
            Checks.due("1: forced(" + j + ")", x.forced(j), NONE);
            Checks.due("1: planned(" + j + ")", x.planned(j), NONE);
            for (int k = 0; k < 2; k++) {
                Checks.due("1: change(" + j + ", " + k + ", ..)", x.change(j, k, ALL_0), BAD);
                Checks.due("1: pin(" + j + ", " + k + ")", x.pin(j, k), BAD);
                Checks.due("1: way(" + j + ", " + k + ")", x.way(j, k), NONE);
                Checks.due("1: implies(" + j + ", " + k + ", " + j + ", " + k + ")", x.implies(j, k, j, k), false);
            }
        }
        Checks.due("1: the first job", x.offer(ALL_0, ALL_0), 0);
    }

    private static void newObjectStandsAlone() {
        TwoWayDesk empty = new TwoWayDesk();
        TwoWayDesk tight = Edges.tightAndPinned();
        TwoWayDesk full = Edges.eightAndPins();
        Checks.due("1: the empty one", empty.jobs(), 0);
        Checks.due("1: the tight one", tight.jobs(), 3);
        Checks.due("1: the full one", full.jobs(), 255);
        Checks.due("1: the ways of the tight one", tight.way(1, 0), ALL_0);
        Checks.due("1: the ways of the full one", full.way(1, 0), Checks.way(0, 1, 1));
        Checks.due("1: the pin of the tight one", tight.forced(0), 1);
        Checks.due("1: the pin of the full one", full.forced(0), 0);
    }

    // Promise 2

    private static void offers() {
        offerIsBadWhenAIsNoWay();
        offerIsBadWhenBIsNoWay();
        offerTakesTwoEqualWays();
        offerIsFullWhenEightAreThere();
        offerIsNotFullWhenSevenAreThere();
        offerIsRefusedWhenThereWouldBeNoPlan();
        offerIsRefusedByPinsAlone();
        offerTestsBadBeforeFull();
        offerTestsBadBeforeRefused();
        offerTestsFullBeforeRefused();
        offerAnswersTheLeastFreeNumber();
        offerThatIsRefusedUsesUpNoNumber();
        offerTakesInNotPinned();
    }

    private static void offerIsBadWhenAIsNoWay() {
        for (Supplier<TwoWayDesk> made : desks()) {
            Looks.changesNothing("2: BAD for a", made, x -> {
                for (int a : Edges.NO_WAY) {
                    Checks.due("2: offer(" + a + ", ..)", x.offer(a, ALL_2), BAD);
                }
            });
        }
    }

    private static void offerIsBadWhenBIsNoWay() {
        for (Supplier<TwoWayDesk> made : desks()) {
            Looks.changesNothing("2: BAD for b", made, x -> {
                for (int b : Edges.NO_WAY) {
                    Checks.due("2: offer(.., " + b + ")", x.offer(ALL_2, b), BAD);
                }
            });
        }
    }

    private static void offerTakesTwoEqualWays() {
        TwoWayDesk x = new TwoWayDesk();
        Checks.due("2: two equal ways", x.offer(ALL_1, ALL_1), 0);
    }

    private static void offerIsFullWhenEightAreThere() {
        Looks.changesNothing("2: FULL", Edges::eight, x -> Checks.due("2: eight", x.offer(ALL_2, ALL_2), FULL));
        Looks.changesNothing("2: FULL", Edges::eightAndPins, x -> Checks.due("2: pins", x.offer(ALL_2, ALL_2), FULL));
    }

    private static void offerIsNotFullWhenSevenAreThere() {
        for (int j = 0; j < 8; j++) {
            TwoWayDesk x = Edges.eight();
            x.withdraw(j);
            Checks.due("2: eight but " + j, x.offer(ALL_2, ALL_2), j);
            Checks.due("2: and eight again", x.offer(Checks.way(0, 19, 1), ALL_1), FULL);
        }
    }

    private static void offerIsRefusedWhenThereWouldBeNoPlan() {
        Looks.changesNothing("2: REFUSED", Edges::tight, x -> {
            Checks.due("2: no room", x.offer(ALL_0, ALL_1), REFUSED);
            Checks.due("2: no room for an hour", x.offer(Checks.way(0, 19, 1), Checks.way(1, 0, 1)), REFUSED);
        });
        TwoWayDesk x = Edges.tight();
        Checks.due("2: room for way 0", x.offer(ALL_2, ALL_0), 2);
        TwoWayDesk y = Edges.tight();
        Checks.due("2: room for way 1", y.offer(ALL_0, ALL_2), 2);
    }

    private static void offerIsRefusedByPinsAlone() {
        Supplier<TwoWayDesk> pinned = () -> {
            TwoWayDesk x = new TwoWayDesk();
            x.offer(ALL_0, ALL_1);
            x.pin(0, 1);
            return x;
        };
        Looks.changesNothing("2: REFUSED", pinned, x -> Checks.due("2: pinned", x.offer(ALL_1, ALL_1), REFUSED));
        TwoWayDesk x = pinned.get();
        x.unpin(0);
        Checks.due("2: no pin", x.offer(ALL_1, ALL_1), 1);
    }

    private static void offerTestsBadBeforeFull() {
        Looks.changesNothing("2: BAD, full", Edges::eight, x -> {
            Checks.due("2: BAD before FULL, a", x.offer(0, ALL_2), BAD);
            Checks.due("2: BAD before FULL, b", x.offer(ALL_2, 0), BAD);
            Checks.due("2: BAD before FULL, both", x.offer(Edges.LEAST, Edges.GREATEST), BAD);
        });
    }

    private static void offerTestsBadBeforeRefused() {
        Looks.changesNothing("2: BAD, tight", Edges::tight, x -> {
            Checks.due("2: BAD before REFUSED, a", x.offer(0, ALL_1), BAD);
            Checks.due("2: BAD before REFUSED, b", x.offer(ALL_1, 0), BAD);
        });
    }

    private static void offerTestsFullBeforeRefused() {
        TwoWayDesk x = Edges.eight();
        x.change(0, 0, ALL_2);
        x.change(0, 1, ALL_2);
        Checks.due("2: FULL before REFUSED", x.offer(ALL_2, ALL_2), FULL);
        x.withdraw(7);
        Checks.due("2: REFUSED, when not full", x.offer(ALL_2, ALL_2), REFUSED);
    }

    private static void offerAnswersTheLeastFreeNumber() {
        TwoWayDesk x = new TwoWayDesk();
        for (int j = 0; j < 8; j++) {
            Checks.due("2: in turn, " + j, x.offer(Checks.way(0, j, 1), Checks.way(1, j, 1)), j);
        }
        for (int low = 0; low < 8; low++) {
            for (int high = low + 1; high < 8; high++) {
                offerFillsTwoGaps(low, high);
            }
        }
    }

    private static void offerFillsTwoGaps(int low, int high) {
        TwoWayDesk x = Edges.eight();
        x.withdraw(low);
        x.withdraw(high);
        Checks.due("2: " + low + " and " + high + " are free", x.offer(Checks.way(2, 0, 1), Checks.way(2, 0, 1)), low);
        Checks.due("2: " + high + " is free", x.offer(Checks.way(2, 1, 1), Checks.way(2, 1, 1)), high);
    }

    private static void offerThatIsRefusedUsesUpNoNumber() {
        TwoWayDesk x = Edges.tight();
        x.offer(ALL_0, ALL_1);
        x.offer(0, 0);
        Checks.due("2: no number is used up", x.offer(ALL_2, ALL_2), 2);
    }

    private static void offerTakesInNotPinned() {
        for (int k = 0; k < 2; k++) {
            TwoWayDesk x = Edges.eightPinnedTo(k);
            for (int j = 0; j < 8; j++) {
                x.withdraw(j);
                Checks.due("2: offer to " + j, x.offer(Checks.way(2, j, 1), Checks.way(2, j + 8, 1)), j);
                Checks.due("2: either way", x.forced(j), NONE);
                Checks.due("2: no pin to take away", x.unpin(j), false);
            }
        }
    }

    // Promise 3

    private static void probes() {
        probeAnswersTheNumberAndChangesNothing();
        probeAnswersBadAndChangesNothing();
        probeAnswersFullAndChangesNothing();
        probeAnswersRefusedAndChangesNothing();
        probeTestsInTheOrderOfOffer();
        probeAnswersAsOfferThen();
    }

    private static void probeAnswersTheNumberAndChangesNothing() {
        Looks.changesNothing("3: probe", TwoWayDesk::new, x -> Checks.due("3: none", x.probe(ALL_0, ALL_0), 0));
        Looks.changesNothing("3: probe", Edges::tight, x -> Checks.due("3: two", x.probe(ALL_0, ALL_2), 2));
        for (int j = 0; j < 8; j++) {
            int gap = j;
            Looks.changesNothing("3: probe", () -> eightBut(gap), x -> {
                Checks.due("3: all but " + gap, x.probe(ALL_2, ALL_2), gap);
                Checks.due("3: and again", x.probe(ALL_2, ALL_2), gap);
            });
        }
    }

    private static void probeAnswersBadAndChangesNothing() {
        for (Supplier<TwoWayDesk> made : desks()) {
            Looks.changesNothing("3: BAD", made, x -> {
                for (int a : Edges.NO_WAY) {
                    Checks.due("3: probe(" + a + ", ..)", x.probe(a, ALL_2), BAD);
                    Checks.due("3: probe(.., " + a + ")", x.probe(ALL_2, a), BAD);
                }
            });
        }
    }

    private static void probeAnswersFullAndChangesNothing() {
        Looks.changesNothing("3: FULL", Edges::eightAndPins, x -> Checks.due("3: eight", x.probe(ALL_2, ALL_2), FULL));
    }

    private static void probeAnswersRefusedAndChangesNothing() {
        Looks.changesNothing("3: REFUSED", Edges::tight, x -> Checks.due("3: tight", x.probe(ALL_1, ALL_0), REFUSED));
        Looks.changesNothing("3: REFUSED", Edges::tightAndPinned, x -> Checks.due("3: pinned", x.probe(ALL_0, ALL_0), REFUSED));
    }

    private static void probeTestsInTheOrderOfOffer() {
        TwoWayDesk x = Edges.eight();
        Checks.due("3: BAD before FULL, a", x.probe(0, ALL_2), BAD);
        Checks.due("3: BAD before FULL, b", x.probe(ALL_2, 0), BAD);
        x.change(0, 0, ALL_2);
        x.change(0, 1, ALL_2);
        Checks.due("3: FULL before REFUSED", x.probe(ALL_2, ALL_2), FULL);
        TwoWayDesk y = Edges.tight();
        Checks.due("3: BAD before REFUSED", y.probe(ALL_0, 0), BAD);
    }

    private static void probeAnswersAsOfferThen() {
        TwoWayDesk x = new TwoWayDesk();
        int[] some = {ALL_0, 0, ALL_1, ALL_0, ALL_2, Edges.LEAST, Checks.way(1, 19, 1), ALL_1};
        for (int a : some) {
            for (int b : some) {
                int told = x.probe(a, b);
                Checks.due("3: probe and offer(" + a + ", " + b + ")", x.offer(a, b), told);
            }
        }
    }

    // Promise 4

    private static void withdrawals() {
        withdrawIsFalseWithoutTheJob();
        withdrawIsFalsePastTheNumbers();
        withdrawIsFalseTheSecondTime();
        withdrawOfTheFirstAndTheLastNumber();
        withdrawOfTheOnlyJobLeavesAnEmptyDesk();
        withdrawTakesThePinAlong();
        withdrawMakesRoom();
    }

    private static void withdrawIsFalseWithoutTheJob() {
        for (int j = 0; j < 8; j++) {
            int gap = j;
            Looks.changesNothing("4: false", TwoWayDesk::new, x -> Checks.due("4: none", x.withdraw(gap), false));
            Looks.changesNothing("4: false", () -> eightBut(gap), x -> Checks.due("4: no " + gap, x.withdraw(gap), false));
        }
    }

    private static void withdrawIsFalsePastTheNumbers() {
        for (Supplier<TwoWayDesk> made : desks()) {
            Looks.changesNothing("4: false", made, x -> {
                for (int j : Edges.NO_JOB) {
                    Checks.due("4: withdraw(" + j + ")", x.withdraw(j), false);
                }
            });
        }
    }

    private static void withdrawIsFalseTheSecondTime() {
        TwoWayDesk x = Edges.eight();
        for (int j = 0; j < 8; j++) {
            Checks.due("4: withdraw(" + j + ")", x.withdraw(j), true);
            Checks.due("4: withdraw(" + j + ") again", x.withdraw(j), false);
        }
    }

    private static void withdrawOfTheFirstAndTheLastNumber() {
        TwoWayDesk x = Edges.eight();
        Checks.due("4: withdraw(0)", x.withdraw(0), true);
        Checks.due("4: withdraw(7)", x.withdraw(7), true);
        Checks.due("4: the others stay", x.jobs(), 126);
        for (int j = 1; j < 7; j++) {
            Checks.due("4: way(" + j + ", 0)", x.way(j, 0), Checks.way(0, j, 1));
            Checks.due("4: way(" + j + ", 1)", x.way(j, 1), Checks.way(1, j, 1));
        }
    }

    private static void withdrawOfTheOnlyJobLeavesAnEmptyDesk() {
        TwoWayDesk x = new TwoWayDesk();
        x.offer(ALL_0, ALL_1);
        x.pin(0, 1);
        Checks.due("4: the only job", x.withdraw(0), true);
        Looks.same("4: as a new one", x, new TwoWayDesk());
        TwoWayDesk y = Edges.eightAndPins();
        for (int j = 7; j >= 0; j--) {
            Checks.due("4: one of all, " + j, y.withdraw(j), true);
        }
        Looks.same("4: as a new one", y, new TwoWayDesk());
    }

    private static void withdrawTakesThePinAlong() {
        TwoWayDesk x = Edges.tightAndPinned();
        x.withdraw(0);
        Checks.due("4: no pin without a job", x.unpin(0), false);
        Checks.due("4: it binds nobody", x.forced(1), NONE);
    }

    private static void withdrawMakesRoom() {
        TwoWayDesk x = Edges.tight();
        Checks.due("4: no room", x.probe(ALL_0, ALL_1), REFUSED);
        x.withdraw(0);
        Checks.due("4: room", x.offer(ALL_0, ALL_1), 0);
    }

    // Promises 5 and 17

    private static void changes() {
        changeIsBadWithoutTheJob();
        changeIsBadPastTheNumbers();
        changeIsBadForAnotherK();
        changeIsBadForNoWay();
        changeIsRefusedWhenThereWouldBeNoPlan();
        changeTestsBadBeforeRefused();
        changeAnswersK();
        changeOfOneWayLeavesTheOther();
        changeKeepsThePin();
        changeOfThePinnedWayIsRefusedByThePin();
        changeGoesOnTheFullDesk();
    }

    private static void changeIsBadWithoutTheJob() {
        for (int j = 0; j < 8; j++) {
            int gap = j;
            Looks.changesNothing("5: BAD", () -> eightBut(gap), x -> {
                Checks.due("5: change(" + gap + ", 0, ..)", x.change(gap, 0, ALL_2), BAD);
                Checks.due("5: change(" + gap + ", 1, ..)", x.change(gap, 1, ALL_2), BAD);
            });
        }
    }

    private static void changeIsBadPastTheNumbers() {
        for (Supplier<TwoWayDesk> made : desks()) {
            Looks.changesNothing("5: BAD", made, x -> {
                for (int j : Edges.NO_JOB) {
                    Checks.due("5: change(" + j + ", 0, ..)", x.change(j, 0, ALL_2), BAD);
                    Checks.due("5: change(" + j + ", 1, ..)", x.change(j, 1, ALL_2), BAD);
                }
            });
        }
    }

    private static void changeIsBadForAnotherK() {
        for (Supplier<TwoWayDesk> made : desks()) {
            Looks.changesNothing("5: BAD", made, x -> {
                for (int k : Edges.NO_CHOICE) {
                    Checks.due("5: change(0, " + k + ", ..)", x.change(0, k, ALL_2), BAD);
                    Checks.due("5: change(1, " + k + ", ..)", x.change(1, k, ALL_2), BAD);
                    Checks.due("5: change(7, " + k + ", ..)", x.change(7, k, ALL_2), BAD);
                }
            });
        }
    }

    private static void changeIsBadForNoWay() {
        for (Supplier<TwoWayDesk> made : desks()) {
            Looks.changesNothing("5: BAD", made, x -> {
                for (int a : Edges.NO_WAY) {
                    Checks.due("5: change(0, 0, " + a + ")", x.change(0, 0, a), BAD);
                    Checks.due("5: change(1, 1, " + a + ")", x.change(1, 1, a), BAD);
                }
            });
        }
    }

    private static void changeIsRefusedWhenThereWouldBeNoPlan() {
        Supplier<TwoWayDesk> made = () -> {
            TwoWayDesk x = new TwoWayDesk();
            x.offer(ALL_0, ALL_0);
            x.offer(ALL_0, ALL_1);
            x.offer(ALL_2, ALL_0);
            return x;
        };
        Looks.changesNothing("5: REFUSED", made, x -> {
            Checks.due("5: way 1", x.change(1, 1, ALL_0), REFUSED);
            Checks.due("5: way 1, an hour", x.change(1, 1, Checks.way(2, 19, 1)), REFUSED);
            Checks.due("5: way 0", x.change(2, 0, Checks.way(0, 0, 1)), REFUSED);
        });
    }

    private static void changeTestsBadBeforeRefused() {
        Looks.changesNothing("17: BAD", Edges::allTaken, x -> {
            x.change(0, 0, ALL_1);
            Checks.due("17: it would be refused", x.change(0, 1, ALL_1), REFUSED);
            Checks.due("17: no job", x.change(3, 1, ALL_1), BAD);
            Checks.due("17: no such k", x.change(0, 2, ALL_1), BAD);
            Checks.due("17: no way", x.change(0, 1, ALL_1 + 2), BAD);
            x.change(0, 0, ALL_0);
        });
    }

    private static void changeAnswersK() {
        TwoWayDesk x = Edges.tight();
        Checks.due("5: way 0", x.change(0, 0, ALL_2), 0);
        Checks.due("5: way 1", x.change(0, 1, ALL_2), 1);
        Checks.due("5: the same way again", x.change(0, 1, ALL_2), 1);
        Checks.due("5: a way that nobody needs", x.change(0, 1, ALL_0), 1);
    }

    private static void changeOfOneWayLeavesTheOther() {
        for (int j = 0; j < 8; j++) {
            for (int k = 0; k < 2; k++) {
                TwoWayDesk x = Edges.eight();
                x.change(j, k, ALL_2);
                for (int i = 0; i < 8; i++) {
                    for (int m = 0; m < 2; m++) {
                        int due = i == j && m == k ? ALL_2 : Checks.way(m, i, 1);
                        Checks.due("5: change(" + j + ", " + k + ", ..), way(" + i + ", " + m + ")", x.way(i, m), due);
                    }
                }
            }
        }
    }

    private static void changeKeepsThePin() {
        for (int k = 0; k < 2; k++) {
            TwoWayDesk x = new TwoWayDesk();
            x.offer(ALL_0, ALL_1);
            x.pin(0, k);
            x.change(0, k, ALL_2);
            Checks.due("17: pin to " + k + ", that way changed", x.forced(0), k);
            x.change(0, 1 - k, ALL_2);
            Checks.due("17: pin to " + k + ", the other changed", x.forced(0), k);
            Checks.due("17: pin to " + k + " is there", x.unpin(0), true);
            x.change(0, k, ALL_1);
            Checks.due("17: no pin, changed", x.unpin(0), false);
        }
    }

    private static void changeOfThePinnedWayIsRefusedByThePin() {
        Looks.changesNothing("17: REFUSED", Edges::tightAndPinned, x -> {
            x.change(1, 1, ALL_0);
            Checks.due("17: the pinned way", x.change(0, 1, ALL_0), REFUSED);
            x.change(1, 1, ALL_1);
        });
        TwoWayDesk x = Edges.tightAndPinned();
        Checks.due("17: the way without the pin", x.change(0, 0, ALL_1), 0);
    }

    private static void changeGoesOnTheFullDesk() {
        TwoWayDesk x = Edges.eight();
        Checks.due("5: job 0", x.change(0, 0, ALL_2), 0);
        Checks.due("5: job 7", x.change(7, 1, ALL_2), 1);
        Checks.due("5: job 0 has it", x.way(0, 0), ALL_2);
        Checks.due("5: job 7 has it", x.way(7, 1), ALL_2);
    }

    // Promises 6 and 17

    private static void pins() {
        pinIsBadWithoutTheJob();
        pinIsBadPastTheNumbers();
        pinIsBadForAnotherK();
        pinIsRefusedWhenThereWouldBeNoPlan();
        pinRefusedKeepsThePinItHad();
        pinTestsBadBeforeRefused();
        pinAnswersK();
        pinTakesThePlaceOfAnyPin();
        pinOfOneOfTwoEqualWays();
    }

    private static void pinIsBadWithoutTheJob() {
        for (int j = 0; j < 8; j++) {
            int gap = j;
            Looks.changesNothing("6: BAD", () -> eightBut(gap), x -> {
                Checks.due("6: pin(" + gap + ", 0)", x.pin(gap, 0), BAD);
                Checks.due("6: pin(" + gap + ", 1)", x.pin(gap, 1), BAD);
            });
            TwoWayDesk x = eightBut(j);
            x.pin(j, 1);
            x.offer(ALL_2, ALL_2);
            Checks.due("6: no pin waits for job " + j, x.unpin(j), false);
        }
    }

    private static void pinIsBadPastTheNumbers() {
        for (Supplier<TwoWayDesk> made : desks()) {
            Looks.changesNothing("6: BAD", made, x -> {
                for (int j : Edges.NO_JOB) {
                    Checks.due("6: pin(" + j + ", 0)", x.pin(j, 0), BAD);
                    Checks.due("6: pin(" + j + ", 1)", x.pin(j, 1), BAD);
                }
            });
        }
    }

    private static void pinIsBadForAnotherK() {
        for (Supplier<TwoWayDesk> made : desks()) {
            Looks.changesNothing("6: BAD", made, x -> {
                for (int k : Edges.NO_CHOICE) {
                    Checks.due("6: pin(0, " + k + ")", x.pin(0, k), BAD);
                    Checks.due("6: pin(1, " + k + ")", x.pin(1, k), BAD);
                    Checks.due("6: pin(7, " + k + ")", x.pin(7, k), BAD);
                }
            });
        }
    }

    private static void pinIsRefusedWhenThereWouldBeNoPlan() {
        Looks.changesNothing("6: REFUSED", Edges::tightAndPinned, x -> Checks.due("6: to 1", x.pin(1, 1), REFUSED));
        Looks.changesNothing("6: REFUSED", Edges::mixed, x -> Checks.due("6: to 0", x.pin(2, 0), REFUSED));
    }

    private static void pinRefusedKeepsThePinItHad() {
        for (int k = 0; k < 2; k++) {
            int had = k;
            Supplier<TwoWayDesk> made = () -> {
                TwoWayDesk x = Edges.tight();
                x.pin(0, 1 - had);
                x.pin(1, had);
                return x;
            };
            Looks.changesNothing("6: REFUSED", made, x -> Checks.due("6: had " + had, x.pin(1, 1 - had), REFUSED));
        }
    }

    private static void pinTestsBadBeforeRefused() {
        Looks.changesNothing("17: BAD", Edges::tightAndPinned, x -> {
            Checks.due("17: it would be refused", x.pin(1, 1), REFUSED);
            Checks.due("17: no such k", x.pin(1, 3), BAD);
            Checks.due("17: no job", x.pin(2, 1), BAD);
        });
    }

    private static void pinAnswersK() {
        TwoWayDesk x = Edges.eight();
        for (int j = 0; j < 8; j++) {
            Checks.due("6: pin(" + j + ", 0)", x.pin(j, 0), 0);
            Checks.due("6: pin(" + j + ", 0) again", x.pin(j, 0), 0);
            Checks.due("6: pin(" + j + ", 1)", x.pin(j, 1), 1);
        }
    }

    private static void pinTakesThePlaceOfAnyPin() {
        TwoWayDesk x = Edges.tightAndPinned();
        Checks.due("6: the other way", x.pin(0, 0), 0);
        Checks.due("6: it binds", x.forced(0), 0);
        Checks.due("6: there is one pin", x.unpin(0), true);
        Checks.due("6: and no second", x.unpin(0), false);
        Checks.due("6: nothing binds", x.forced(0), NONE);
    }

    private static void pinOfOneOfTwoEqualWays() {
        TwoWayDesk x = new TwoWayDesk();
        x.offer(ALL_0, ALL_0);
        Checks.due("6: equal ways", x.pin(0, 1), 1);
        Checks.due("6: the pinned one is chosen", x.planned(0), 1);
    }

    // Promise 7

    private static void unpins() {
        unpinIsFalseWithoutTheJob();
        unpinIsFalsePastTheNumbers();
        unpinIsFalseWithoutAPin();
        unpinIsFalseTheSecondTime();
        unpinOfEachPin();
    }

    private static void unpinIsFalseWithoutTheJob() {
        for (int j = 0; j < 8; j++) {
            int gap = j;
            Looks.changesNothing("7: false", () -> eightBut(gap), x -> Checks.due("7: no " + gap, x.unpin(gap), false));
        }
    }

    private static void unpinIsFalsePastTheNumbers() {
        for (Supplier<TwoWayDesk> made : desks()) {
            Looks.changesNothing("7: false", made, x -> {
                for (int j : Edges.NO_JOB) {
                    Checks.due("7: unpin(" + j + ")", x.unpin(j), false);
                }
            });
        }
    }

    private static void unpinIsFalseWithoutAPin() {
        Looks.changesNothing("7: false", Edges::eightAndPins, x -> {
            Checks.due("7: unpin(2)", x.unpin(2), false);
            Checks.due("7: unpin(5)", x.unpin(5), false);
        });
        // A job that is forced by the others has no pin for that.
        Looks.changesNothing("7: false", Edges::mixed, x -> Checks.due("7: forced", x.unpin(2), false));
    }

    private static void unpinIsFalseTheSecondTime() {
        for (int k = 0; k < 2; k++) {
            TwoWayDesk x = Edges.eightPinnedTo(k);
            for (int j = 0; j < 8; j++) {
                Checks.due("7: unpin(" + j + ")", x.unpin(j), true);
                Checks.due("7: unpin(" + j + ") again", x.unpin(j), false);
            }
        }
    }

    private static void unpinOfEachPin() {
        for (int k = 0; k < 2; k++) {
            TwoWayDesk x = Edges.eightPinnedTo(k);
            for (int j = 0; j < 8; j++) {
                x.unpin(j);
                Checks.due("7: unpin(" + j + ") from " + k, x.forced(j), NONE);
                Checks.due("7: the other pins stay", x.forcedJobs(), 7 - j);
            }
        }
    }

    /** From the empty desk to the full one, with pins and without. */
    private static List<Supplier<TwoWayDesk>> desks() {
        return List.of(TwoWayDesk::new, Edges::tightAndPinned, Edges::eight, Edges::eightAndPins);
    }

    private static TwoWayDesk eightBut(int j) {
        TwoWayDesk x = Edges.eightAndPins();
        x.withdraw(j);
        return x;
    }
}
