/** The boundary cases of "What it is" and "Terms": one method for each sentence that names one. */
public final class WayBoundaryTest {
    private static final int SOME = Checks.way(1, 3, 2);

    public static void main(String[] args) {
        fiveHundredAndTwelveCalls();
        machines0To2();
        starts0To19();
        lengths1To20();
        startAndLengthAtMost20();
        negativeNumbersAreNoWays();
        endsOfIntAreNoWays();
        highBitsCount();
        numbersAroundAllWays();
        takenFromStartUpToStartAndLength();
        oneMayBeginWhenTheOtherEnds();
        anOverlapOfOneHourCollides();
        otherMachinesDoNotCollide();
        aJobHasBothWaysOnItsOwn();
        everyCallThatWouldLeaveNoPlanIsRefused();
        plansMustChooseThePinnedWay();
        Checks.end();
    }

    private static void fiveHundredAndTwelveCalls() {
        TwoWayDesk x = new TwoWayDesk();
        for (int round = 0; round < 101; round++) {
            Checks.due("offer, round " + round, x.offer(Edges.ALL_0, Edges.ALL_1), 0);
            Checks.due("pin, round " + round, x.pin(0, round % 2), round % 2);
            Checks.due("change, round " + round, x.change(0, 0, Edges.ALL_2), 0);
            Checks.due("planned, round " + round, x.planned(0), round % 2);
            Checks.due("withdraw, round " + round, x.withdraw(0), true);
        }
        for (int j = 0; j < 6; j++) {
            Checks.due("call " + (506 + j), x.offer(Checks.way(0, j, 1), SOME), j);
        }
        Checks.due("call 512", x.offer(Edges.ALL_0, Edges.ALL_0), TwoWayDesk.REFUSED);
    }

    private static void machines0To2() {
        for (int start = 0; start < 20; start++) {
            isWay("machine 0", Checks.way(0, start, 1));
            isWay("machine 2", Checks.way(2, start, 20 - start));
            isNoWay("machine 3", Checks.way(3, start, 1));
            isNoWay("machine 3", Checks.way(3, start, 20 - start));
        }
    }

    private static void starts0To19() {
        for (int m = 0; m < 3; m++) {
            isWay("start 0", Checks.way(m, 0, 1));
            isWay("start 19", Checks.way(m, 19, 1));
            isNoWay("start -1", Checks.way(m, -1, 1));
            isNoWay("start -1", Checks.way(m, -1, 2));
            isNoWay("start -1, end 20", Checks.way(m, -1, 21));
            for (int start = 20; start < 32; start++) {
                isNoWay("start " + start, Checks.way(m, start, 1));
                isNoWay("start " + start + ", end 20", Checks.way(m, start, 20 - start));
            }
        }
    }

    private static void lengths1To20() {
        for (int m = 0; m < 3; m++) {
            isWay("length 1", Checks.way(m, 0, 1));
            isWay("length 20", Checks.way(m, 0, 20));
            isNoWay("length 21", Checks.way(m, 0, 21));
            for (int start = 0; start <= 20; start++) {
                isNoWay("length 0", Checks.way(m, start, 0));
                isNoWay("length -1", Checks.way(m, start, -1));
            }
        }
    }

    private static void startAndLengthAtMost20() {
        for (int m = 0; m < 3; m++) {
            for (int start = 0; start < 20; start++) {
                isWay("end 20", Checks.way(m, start, 20 - start));
                isNoWay("end 21", Checks.way(m, start, 21 - start));
                isNoWay("length 20 from " + start + " on", Checks.way(m, start + 1, 20));
            }
        }
    }

    private static void negativeNumbersAreNoWays() {
        for (int a : new int[] {-1, -2, -3, -4, -127, -128, -129, -SOME, -Edges.ALL_0, -Edges.ALL_2}) {
            isNoWay("negative", a);
        }
    }

    private static void endsOfIntAreNoWays() {
        isNoWay("the least int", Edges.LEAST);
        isNoWay("near the least int", Edges.LEAST + 1);
        isNoWay("the greatest int", Edges.GREATEST);
        isNoWay("near the greatest int", Edges.GREATEST - 1);
    }

    private static void highBitsCount() {
        for (int bit = 12; bit < 32; bit++) {
            isNoWay("a way and bit " + bit, SOME + (1 << bit));
            isNoWay("a way and bits from " + bit, SOME - (1 << bit));
            isNoWay("a long way and bit " + bit, Edges.ALL_0 + (1 << bit));
        }
    }

    private static void numbersAroundAllWays() {
        boolean[] written = new boolean[6000];
        for (int m = 0; m < 3; m++) {
            for (int start = 0; start < 20; start++) {
                for (int length = 1; start + length <= 20; length++) {
                    written[Checks.way(m, start, length)] = true;
                }
            }
        }
        for (int a = -600; a < written.length; a++) {
            if (a >= 0 && written[a]) {
                isWay("written", a);
            } else {
                isNoWay("not written", a);
            }
        }
    }

    private static void takenFromStartUpToStartAndLength() {
        for (int m = 0; m < 3; m++) {
            for (int start = 0; start < 20; start++) {
                for (int end = start + 1; end <= 20; end++) {
                    takesItsSpan(m, start, end);
                }
            }
        }
    }

    private static void takesItsSpan(int machine, int start, int end) {
        int a = Checks.way(machine, start, end - start);
        TwoWayDesk x = new TwoWayDesk();
        x.offer(a, a);
        for (int m = 0; m < 3; m++) {
            for (int t = 0; t < 20; t++) {
                boolean taken = m == machine && start <= t && t < end;
                Checks.due(a + " takes machine " + m + " at " + t, x.alwaysTaken(m, t), taken);
                Checks.due(a + " leaves machine " + m + " at " + t, x.couldKeepFree(Checks.way(m, t, 1)), !taken);
            }
        }
    }

    private static void oneMayBeginWhenTheOtherEnds() {
        for (int m = 0; m < 3; m++) {
            for (int t = 1; t < 20; t++) {
                bothGo("one ends when the other begins", Checks.way(m, 0, t), Checks.way(m, t, 20 - t));
                bothGo("next hours", Checks.way(m, t - 1, 1), Checks.way(m, t, 1));
            }
        }
    }

    private static void anOverlapOfOneHourCollides() {
        for (int m = 0; m < 3; m++) {
            for (int t = 0; t < 20; t++) {
                notBothGo("the same hour", Checks.way(m, t, 1), Checks.way(m, t, 1));
                notBothGo("one hour of both", Checks.way(m, 0, t + 1), Checks.way(m, t, 20 - t));
                notBothGo("an hour within", Checks.way(m, t, 1), Checks.way(m, 0, 20));
            }
        }
    }

    private static void otherMachinesDoNotCollide() {
        bothGo("machines 0 and 1", Edges.ALL_0, Edges.ALL_1);
        bothGo("machines 0 and 2", Edges.ALL_0, Edges.ALL_2);
        bothGo("machines 1 and 2", Edges.ALL_1, Edges.ALL_2);
    }

    private static void aJobHasBothWaysOnItsOwn() {
        TwoWayDesk x = new TwoWayDesk();
        Checks.due("the ways of one job may overlap", x.offer(Edges.ALL_0, Checks.way(0, 5, 5)), 0);
        Checks.due("either can be chosen", x.forced(0), TwoWayDesk.NONE);
    }

    private static void everyCallThatWouldLeaveNoPlanIsRefused() {
        TwoWayDesk x = Edges.tight();
        Checks.due("offer", x.offer(Edges.ALL_0, Edges.ALL_1), TwoWayDesk.REFUSED);
        x.change(0, 0, Edges.ALL_1);
        Checks.due("change", x.change(1, 0, Edges.ALL_1), TwoWayDesk.REFUSED);
        Checks.due("pin", x.pin(1, 1), TwoWayDesk.REFUSED);
        Checks.due("there is a plan, job 0", x.planned(0), 0);
        Checks.due("there is a plan, job 1", x.planned(1), 0);
    }

    private static void plansMustChooseThePinnedWay() {
        for (int k = 0; k < 2; k++) {
            TwoWayDesk x = Edges.eightPinnedTo(k);
            for (int j = 0; j < 8; j++) {
                Checks.due("job " + j + " pinned to " + k, x.forced(j), k);
            }
        }
    }

    private static void isWay(String why, int a) {
        TwoWayDesk x = new TwoWayDesk();
        String what = why + ", " + a + ": ";
        Checks.due(what + "couldKeepFree", x.couldKeepFree(a), true);
        Checks.due(what + "probe", x.probe(a, a), 0);
        Checks.due(what + "offer", x.offer(a, a), 0);
        Checks.due(what + "way 0", x.way(0, 0), a);
        Checks.due(what + "way 1", x.way(0, 1), a);
        x.withdraw(0);
        x.offer(SOME, SOME);
        Checks.due(what + "change, way 0", x.change(0, 0, a), 0);
        Checks.due(what + "change, way 1", x.change(0, 1, a), 1);
    }

    private static void isNoWay(String why, int a) {
        TwoWayDesk x = new TwoWayDesk();
        String what = why + ", " + a + ": ";
        Checks.due(what + "couldKeepFree", x.couldKeepFree(a), false);
        Checks.due(what + "probe, a", x.probe(a, SOME), TwoWayDesk.BAD);
        Checks.due(what + "probe, b", x.probe(SOME, a), TwoWayDesk.BAD);
        Checks.due(what + "offer, a", x.offer(a, SOME), TwoWayDesk.BAD);
        Checks.due(what + "offer, b", x.offer(SOME, a), TwoWayDesk.BAD);
        Checks.due(what + "offer, both", x.offer(a, a), TwoWayDesk.BAD);
        Checks.due(what + "no job", x.jobs(), 0);
        x.offer(SOME, SOME);
        Checks.due(what + "change, way 0", x.change(0, 0, a), TwoWayDesk.BAD);
        Checks.due(what + "change, way 1", x.change(0, 1, a), TwoWayDesk.BAD);
        Checks.due(what + "way 0 stays", x.way(0, 0), SOME);
        Checks.due(what + "way 1 stays", x.way(0, 1), SOME);
    }

    private static void bothGo(String why, int a, int b) {
        answers(why, a, b, 1);
        answers(why, b, a, 1);
    }

    private static void notBothGo(String why, int a, int b) {
        answers(why, a, b, TwoWayDesk.REFUSED);
        answers(why, b, a, TwoWayDesk.REFUSED);
    }

    private static void answers(String why, int a, int b, int second) {
        TwoWayDesk x = new TwoWayDesk();
        x.offer(a, a);
        Checks.due(why + ", " + a + ": couldKeepFree(" + b + ")", x.couldKeepFree(b), second == 1);
        Checks.due(why + ", " + a + ": offer(" + b + ")", x.offer(b, b), second);
    }
}
