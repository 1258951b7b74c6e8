/** Each promise of the document: ordinary inputs, the edges it names, wrong inputs. */
public final class PromisesTest {
    public static void main(String[] args) {
        promise1();
        waysAsNumbers();
        collisions();
        promise2();
        promise3();
        promise4();
        promise5();
        promise6();
        promise7();
        promise8();
        promise9();
        promise10();
        promise11();
        promise12();
        promise13();
        promise14();
        promise15();
        promise16();
        promise17();
        Checks.end();
    }

    private static void promise1() {
        TwoWayDesk x = new TwoWayDesk();
        Checks.due("1: jobs()", x.jobs(), 0);
        Checks.due("1: forcedJobs()", x.forcedJobs(), 0);
        Checks.due("1: flips()", x.flips(), 0);
        for (int j = 0; j < 8; j++) {
            Checks.due("1: way(" + j + ", 0)", x.way(j, 0), TwoWayDesk.NONE);
            Checks.due("1: planned(" + j + ")", x.planned(j), TwoWayDesk.NONE);
            Checks.due("1: forced(" + j + ")", x.forced(j), TwoWayDesk.NONE);
            Checks.due("1: unpin(" + j + ")", x.unpin(j), false);
            Checks.due("1: withdraw(" + j + ")", x.withdraw(j), false);
        }
        TwoWayDesk other = new TwoWayDesk();
        other.offer(Edges.ALL_0, Edges.ALL_1);
        Checks.due("1: jobs() beside another object", x.jobs(), 0);
    }

    private static void waysAsNumbers() {
        for (int m = 0; m < 3; m++) {
            for (int start = 0; start < 20; start++) {
                for (int length = 1; start + length <= 20; length++) {
                    int a = Checks.way(m, start, length);
                    TwoWayDesk x = new TwoWayDesk();
                    Checks.due("Terms: offer(" + a + ", " + a + ")", x.offer(a, a), 0);
                    Checks.due("Terms: way(0, 1)", x.way(0, 1), a);
                }
            }
        }
        for (int a : Edges.NO_WAY) {
            TwoWayDesk x = new TwoWayDesk();
            Checks.due("Terms: offer(" + a + ", 128)", x.offer(a, 128), TwoWayDesk.BAD);
            Checks.due("Terms: offer(128, " + a + ")", x.offer(128, a), TwoWayDesk.BAD);
            Checks.due("Terms: jobs()", x.jobs(), 0);
        }
    }

    private static void collisions() {
        int middle = Checks.way(1, 5, 4);
        collision(middle, Checks.way(1, 9, 3), false);
        collision(middle, Checks.way(1, 2, 3), false);
        collision(middle, Checks.way(1, 8, 3), true);
        collision(middle, Checks.way(1, 2, 4), true);
        collision(middle, Checks.way(1, 6, 1), true);
        collision(middle, Checks.way(1, 0, 20), true);
        collision(middle, middle, true);
        collision(middle, Checks.way(0, 5, 4), false);
        collision(middle, Checks.way(2, 5, 4), false);
        collision(middle, Checks.way(1, 10, 2), false);
        collision(middle, Checks.way(1, 0, 2), false);
    }

    private static void collision(int a, int b, boolean collide) {
        TwoWayDesk x = new TwoWayDesk();
        x.offer(a, a);
        Checks.due("Terms: after " + a + " offer of " + b, x.offer(b, b), collide ? TwoWayDesk.REFUSED : 1);
        TwoWayDesk y = new TwoWayDesk();
        y.offer(b, b);
        Checks.due("Terms: after " + b + " offer of " + a, y.offer(a, a), collide ? TwoWayDesk.REFUSED : 1);
    }

    private static void promise2() {
        TwoWayDesk x = Edges.eight();
        Checks.due("2: jobs() of eight", x.jobs(), 255);
        Checks.due("2: BAD before FULL, a", x.offer(0, 128), TwoWayDesk.BAD);
        Checks.due("2: BAD before FULL, b", x.offer(128, 0), TwoWayDesk.BAD);
        Checks.due("2: FULL", x.offer(Edges.ALL_2, Edges.ALL_2), TwoWayDesk.FULL);
        x.withdraw(6);
        x.withdraw(2);
        Checks.due("2: least free number", x.offer(Edges.ALL_2, Edges.ALL_2), 2);
        Checks.due("2: FULL is not yet", x.offer(Edges.ALL_2, Edges.ALL_2), TwoWayDesk.REFUSED);
        Checks.due("2: a place is left", x.offer(Checks.way(0, 19, 1), Edges.ALL_2), 6);
        Checks.due("2: FULL before REFUSED", x.offer(Edges.ALL_2, Edges.ALL_2), TwoWayDesk.FULL);

        TwoWayDesk y = new TwoWayDesk();
        y.offer(Edges.ALL_0, Edges.ALL_1);
        y.offer(Edges.ALL_0, Edges.ALL_1);
        Checks.due("2: BAD before REFUSED", y.offer(Edges.ALL_0, 0), TwoWayDesk.BAD);
        Checks.due("2: REFUSED", y.offer(Edges.ALL_0, Edges.ALL_1), TwoWayDesk.REFUSED);
        Checks.due("2: REFUSED changes nothing", y.jobs(), 3);
        Checks.due("2: REFUSED leaves no way", y.way(2, 0), TwoWayDesk.NONE);
        Checks.due("2: way 0 is a", y.way(1, 0), Edges.ALL_0);
        Checks.due("2: way 1 is b", y.way(1, 1), Edges.ALL_1);
        Checks.due("2: not pinned", y.unpin(1), false);
        y.pin(0, 0);
        Checks.due("2: pins bind", y.offer(Edges.ALL_0, Edges.ALL_0), TwoWayDesk.REFUSED);
        Checks.due("2: third machine", y.offer(Edges.ALL_0, Edges.ALL_2), 2);
    }

    private static void promise3() {
        TwoWayDesk x = new TwoWayDesk();
        Checks.due("3: probe of the first", x.probe(Edges.ALL_0, Edges.ALL_1), 0);
        Checks.due("3: it changes nothing", x.jobs(), 0);
        x.offer(Edges.ALL_0, Edges.ALL_1);
        Checks.due("3: probe of the second", x.probe(Edges.ALL_0, Edges.ALL_0), 1);
        Checks.due("3: the plan stays", x.planned(0), 0);
        Checks.due("3: nothing is forced", x.forced(0), TwoWayDesk.NONE);
        x.offer(Edges.ALL_0, Edges.ALL_1);
        Checks.due("3: REFUSED", x.probe(Edges.ALL_1, Edges.ALL_0), TwoWayDesk.REFUSED);
        Checks.due("3: BAD", x.probe(Edges.ALL_1, -1), TwoWayDesk.BAD);
        Checks.due("3: BAD", x.probe(-1, Edges.ALL_1), TwoWayDesk.BAD);
        Checks.due("3: jobs()", x.jobs(), 3);
        x.withdraw(0);
        Checks.due("3: least free number", x.probe(Edges.ALL_1, Edges.ALL_2), 0);
        TwoWayDesk full = Edges.eight();
        Checks.due("3: FULL", full.probe(Edges.ALL_2, Edges.ALL_2), TwoWayDesk.FULL);
        Checks.due("3: BAD before FULL", full.probe(Edges.ALL_2, 0), TwoWayDesk.BAD);
        full.pin(7, 1);
        full.probe(Edges.ALL_2, Edges.ALL_2);
        Checks.due("3: a pin stays", full.planned(7), 1);
    }

    private static void promise4() {
        TwoWayDesk x = new TwoWayDesk();
        x.offer(Edges.ALL_0, Edges.ALL_1);
        x.offer(Edges.ALL_0, Edges.ALL_1);
        x.pin(0, 1);
        Checks.due("4: withdraw(0)", x.withdraw(0), true);
        Checks.due("4: jobs()", x.jobs(), 2);
        Checks.due("4: way(0, 0)", x.way(0, 0), TwoWayDesk.NONE);
        Checks.due("4: again", x.withdraw(0), false);
        Checks.due("4: the other is there", x.way(1, 1), Edges.ALL_1);
        Checks.due("4: its place is free", x.forced(1), TwoWayDesk.NONE);
        Checks.due("4: the number is given again", x.offer(Edges.ALL_0, Edges.ALL_1), 0);
        Checks.due("4: the pin went with the job", x.unpin(0), false);
        Checks.due("4: the pin went with the job", x.planned(0), 0);
        for (int j : Edges.NO_JOB) {
            Checks.due("4: withdraw(" + j + ")", x.withdraw(j), false);
        }
        Checks.due("4: jobs() after wrong inputs", x.jobs(), 3);
    }

    private static void promise5() {
        TwoWayDesk x = new TwoWayDesk();
        x.offer(Edges.ALL_0, Edges.ALL_1);
        x.offer(Edges.ALL_0, Edges.ALL_0);
        Checks.due("5: REFUSED", x.change(0, 1, Edges.ALL_0), TwoWayDesk.REFUSED);
        Checks.due("5: REFUSED changes nothing", x.way(0, 1), Edges.ALL_1);
        Checks.due("5: change(0, 1, ..)", x.change(0, 1, Edges.ALL_2), 1);
        Checks.due("5: the new way", x.way(0, 1), Edges.ALL_2);
        Checks.due("5: the other way stays", x.way(0, 0), Edges.ALL_0);
        Checks.due("5: change(0, 0, ..)", x.change(0, 0, Edges.ALL_1), 0);
        Checks.due("5: the new way", x.way(0, 0), Edges.ALL_1);
        Checks.due("5: the plan follows", x.planned(0), 0);
        Checks.due("5: the same way again", x.change(0, 0, Edges.ALL_1), 0);
        for (int j : Edges.NO_JOB) {
            Checks.due("5: change(" + j + ", 0, ..)", x.change(j, 0, Edges.ALL_1), TwoWayDesk.BAD);
        }
        Checks.due("5: change(2, 0, ..)", x.change(2, 0, Edges.ALL_1), TwoWayDesk.BAD);
        for (int k : Edges.NO_CHOICE) {
            Checks.due("5: change(0, " + k + ", ..)", x.change(0, k, Edges.ALL_1), TwoWayDesk.BAD);
        }
        for (int a : Edges.NO_WAY) {
            Checks.due("5: change(0, 0, " + a + ")", x.change(0, 0, a), TwoWayDesk.BAD);
        }
        Checks.due("5: BAD changes nothing", x.way(0, 0), Edges.ALL_1);
        Checks.due("5: BAD changes nothing", x.way(0, 1), Edges.ALL_2);
        Checks.due("5: BAD changes nothing", x.way(1, 0), Edges.ALL_0);
        Checks.due("5: jobs()", x.jobs(), 3);
    }

    private static void promise6() {
        TwoWayDesk x = new TwoWayDesk();
        x.offer(Edges.ALL_0, Edges.ALL_1);
        x.offer(Edges.ALL_0, Edges.ALL_1);
        Checks.due("6: pin(0, 1)", x.pin(0, 1), 1);
        Checks.due("6: plans must choose it", x.planned(0), 1);
        Checks.due("6: plans must choose it", x.forced(0), 1);
        Checks.due("6: REFUSED", x.pin(1, 1), TwoWayDesk.REFUSED);
        Checks.due("6: REFUSED changes nothing", x.unpin(1), false);
        Checks.due("6: the same pin again", x.pin(0, 1), 1);
        Checks.due("6: in place of the pin it had", x.pin(0, 0), 0);
        Checks.due("6: the new pin", x.forced(0), 0);
        Checks.due("6: the others follow", x.planned(1), 1);
        x.pin(1, 1);
        Checks.due("6: REFUSED keeps the old pin", x.pin(1, 0), TwoWayDesk.REFUSED);
        x.unpin(0);
        Checks.due("6: the old pin binds", x.forced(1), 1);
        Checks.due("6: the old pin is there", x.unpin(1), true);
        Checks.due("6: one unpin takes it away", x.unpin(1), false);
        for (int j : Edges.NO_JOB) {
            Checks.due("6: pin(" + j + ", 0)", x.pin(j, 0), TwoWayDesk.BAD);
        }
        Checks.due("6: pin(2, 0)", x.pin(2, 0), TwoWayDesk.BAD);
        for (int k : Edges.NO_CHOICE) {
            Checks.due("6: pin(0, " + k + ")", x.pin(0, k), TwoWayDesk.BAD);
        }
        Checks.due("6: BAD pins nothing", x.unpin(0), false);
    }

    private static void promise7() {
        TwoWayDesk x = new TwoWayDesk();
        x.offer(Edges.ALL_0, Edges.ALL_1);
        x.offer(Edges.ALL_0, Edges.ALL_2);
        Checks.due("7: not pinned", x.unpin(0), false);
        x.pin(0, 0);
        x.pin(1, 1);
        Checks.due("7: unpin of a pin to 0", x.unpin(0), true);
        Checks.due("7: either way again", x.forced(0), TwoWayDesk.NONE);
        Checks.due("7: the other pin stays", x.forced(1), 1);
        Checks.due("7: unpin of a pin to 1", x.unpin(1), true);
        Checks.due("7: again", x.unpin(1), false);
        Checks.due("7: the job stays", x.jobs(), 3);
        x.pin(1, 1);
        for (int j : Edges.NO_JOB) {
            Checks.due("7: unpin(" + j + ")", x.unpin(j), false);
        }
        Checks.due("7: wrong inputs change nothing", x.forced(1), 1);
        x.withdraw(1);
        Checks.due("7: no job any more", x.unpin(1), false);
    }

    private static void promise8() {
        TwoWayDesk x = Edges.eight();
        int left = 255;
        for (int j : new int[] {3, 0, 7, 5}) {
            x.withdraw(j);
            left -= 1 << j;
            Checks.due("8: jobs() without " + j, x.jobs(), left);
        }
        x.offer(Edges.ALL_2, Edges.ALL_2);
        Checks.due("8: jobs() with 0 again", x.jobs(), left + 1);
    }

    private static void promise9() {
        TwoWayDesk x = Edges.eight();
        for (int j = 0; j < 8; j++) {
            Checks.due("9: way(" + j + ", 0)", x.way(j, 0), Checks.way(0, j, 1));
            Checks.due("9: way(" + j + ", 1)", x.way(j, 1), Checks.way(1, j, 1));
        }
        for (int j : Edges.NO_JOB) {
            Checks.due("9: way(" + j + ", 0)", x.way(j, 0), TwoWayDesk.NONE);
        }
        for (int k : Edges.NO_CHOICE) {
            Checks.due("9: way(1, " + k + ")", x.way(1, k), TwoWayDesk.NONE);
        }
        x.withdraw(4);
        Checks.due("9: way(4, 1) when withdrawn", x.way(4, 1), TwoWayDesk.NONE);
    }

    private static void promise10() {
        TwoWayDesk x = Edges.mixed();
        Checks.due("10: forced(0)", x.forced(0), TwoWayDesk.NONE);
        Checks.due("10: forced(1)", x.forced(1), TwoWayDesk.NONE);
        Checks.due("10: forced(2)", x.forced(2), 1);
        Checks.due("10: forced(3)", x.forced(3), TwoWayDesk.NONE);
        x.pin(1, 1);
        Checks.due("10: forced by a pin of another", x.forced(0), 0);
        Checks.due("10: forced by its pin", x.forced(1), 1);
        for (int j : Edges.NO_JOB) {
            Checks.due("10: forced(" + j + ")", x.forced(j), TwoWayDesk.NONE);
        }
        Checks.due("10: forced(4)", x.forced(4), TwoWayDesk.NONE);
        TwoWayDesk y = new TwoWayDesk();
        y.offer(Edges.ALL_0, Edges.ALL_0);
        Checks.due("10: two equal ways", y.forced(0), TwoWayDesk.NONE);
    }

    private static void promise11() {
        TwoWayDesk x = Edges.mixed();
        Checks.due("11: implies(0, 0, 1, 1)", x.implies(0, 0, 1, 1), true);
        Checks.due("11: implies(0, 0, 1, 0)", x.implies(0, 0, 1, 0), false);
        Checks.due("11: implies(1, 1, 0, 0)", x.implies(1, 1, 0, 0), true);
        Checks.due("11: implies(0, 0, 3, 0)", x.implies(0, 0, 3, 0), false);
        Checks.due("11: implies(0, 0, 3, 1)", x.implies(0, 0, 3, 1), false);
        Checks.due("11: a forced way", x.implies(3, 0, 2, 1), true);
        Checks.due("11: no plan with it", x.implies(2, 0, 3, 0), true);
        Checks.due("11: no plan with it", x.implies(2, 0, 3, 1), true);
        Checks.due("11: no plan with it, itself", x.implies(2, 0, 2, 1), true);
        Checks.due("11: itself", x.implies(3, 1, 3, 1), true);
        Checks.due("11: its other way", x.implies(3, 1, 3, 0), false);
        for (int j : Edges.NO_JOB) {
            Checks.due("11: implies(" + j + ", 0, 0, 0)", x.implies(j, 0, 0, 0), false);
            Checks.due("11: implies(2, 0, " + j + ", 0)", x.implies(2, 0, j, 0), false);
        }
        Checks.due("11: no job 4", x.implies(4, 0, 2, 1), false);
        Checks.due("11: no job 4", x.implies(4, 1, 2, 1), false);
        Checks.due("11: no job 4, though no plan chooses", x.implies(2, 0, 4, 0), false);
        for (int k : Edges.NO_CHOICE) {
            Checks.due("11: implies(0, " + k + ", 2, 1)", x.implies(0, k, 2, 1), false);
            Checks.due("11: implies(2, 0, 0, " + k + ")", x.implies(2, 0, 0, k), false);
        }
        x.pin(3, 1);
        Checks.due("11: no plan past a pin", x.implies(3, 0, 0, 1), true);
    }

    private static void promise12() {
        TwoWayDesk x = Edges.mixed();
        int[] first = {0, 1, 1, 0};
        for (int j = 0; j < 4; j++) {
            Checks.due("12: planned(" + j + ")", x.planned(j), first[j]);
        }
        Checks.due("12: planned(4)", x.planned(4), TwoWayDesk.NONE);
        for (int j : Edges.NO_JOB) {
            Checks.due("12: planned(" + j + ")", x.planned(j), TwoWayDesk.NONE);
        }
        // Way 0 of job 0 drives three others to their ways 1, and still goes first.
        TwoWayDesk y = new TwoWayDesk();
        y.offer(Edges.ALL_0, Edges.ALL_1);
        for (int j = 1; j < 4; j++) {
            y.offer(Checks.way(0, j, 1), Checks.way(2, j, 1));
        }
        for (int j = 0; j < 4; j++) {
            Checks.due("12: low numbers go first, planned(" + j + ")", y.planned(j), j == 0 ? 0 : 1);
        }
        y.withdraw(0);
        Checks.due("12: planned(0) when withdrawn", y.planned(0), TwoWayDesk.NONE);
        Checks.due("12: planned(3) then", y.planned(3), 0);
        Checks.due("12: a late job under number 0", y.offer(Edges.ALL_0, Edges.ALL_1), 0);
        Checks.due("12: goes first again", y.planned(0), 0);
        Checks.due("12: and drives the others", y.planned(3), 1);
        // The ways are compared as 0 and 1, not by the numbers they are written as.
        TwoWayDesk z = new TwoWayDesk();
        z.offer(Edges.ALL_2, Checks.way(0, 0, 1));
        Checks.due("12: way 0 with the greater number", z.planned(0), 0);
        TwoWayDesk last = Edges.eight();
        for (int j = 0; j < 8; j++) {
            Checks.due("12: pin(" + j + ", 1)", last.pin(j, 1), 1);
            Checks.due("12: planned(" + j + ") in the last choice", last.planned(j), 1);
        }
    }

    private static void promise13() {
        TwoWayDesk x = Edges.mixed();
        for (int t = 0; t < 20; t++) {
            Checks.due("13: by one or the other, alwaysTaken(0, " + t + ")", x.alwaysTaken(0, t), t < 10);
            Checks.due("13: by one or the other, alwaysTaken(1, " + t + ")", x.alwaysTaken(1, t), t < 10);
            boolean taken = t == 4 || t >= 12 && t < 15;
            Checks.due("13: alwaysTaken(2, " + t + ")", x.alwaysTaken(2, t), taken);
        }
        TwoWayDesk y = new TwoWayDesk();
        Checks.due("13: no jobs", y.alwaysTaken(0, 0), false);
        y.offer(Edges.ALL_0, Edges.ALL_0);
        y.offer(Edges.ALL_1, Edges.ALL_1);
        y.offer(Edges.ALL_2, Edges.ALL_2);
        for (int m = 0; m < 3; m++) {
            Checks.due("13: alwaysTaken(" + m + ", 0)", y.alwaysTaken(m, 0), true);
            Checks.due("13: alwaysTaken(" + m + ", 19)", y.alwaysTaken(m, 19), true);
            Checks.due("13: alwaysTaken(" + m + ", 20)", y.alwaysTaken(m, 20), false);
            Checks.due("13: alwaysTaken(" + m + ", -1)", y.alwaysTaken(m, -1), false);
        }
        for (int wrong : new int[] {-1, -4, 3, 4, 1 << 30, Integer.MIN_VALUE, Integer.MAX_VALUE}) {
            Checks.due("13: alwaysTaken(" + wrong + ", 0)", y.alwaysTaken(wrong, 0), false);
            Checks.due("13: alwaysTaken(" + wrong + ", 5)", y.alwaysTaken(wrong, 5), false);
        }
        for (int wrong : new int[] {-32, 21, 31, 32, 1 << 30, Integer.MIN_VALUE, Integer.MAX_VALUE}) {
            Checks.due("13: alwaysTaken(0, " + wrong + ")", y.alwaysTaken(0, wrong), false);
        }
    }

    private static void promise14() {
        TwoWayDesk x = Edges.mixed();
        Checks.due("14: taken by one or the other", x.couldKeepFree(Checks.way(0, 9, 2)), false);
        Checks.due("14: begins when they end", x.couldKeepFree(Checks.way(0, 10, 10)), true);
        Checks.due("14: the other machine", x.couldKeepFree(Checks.way(1, 0, 1)), false);
        Checks.due("14: before a forced way", x.couldKeepFree(Checks.way(2, 0, 4)), true);
        Checks.due("14: over a forced way", x.couldKeepFree(Checks.way(2, 0, 5)), false);
        Checks.due("14: free when job 3 has way 1", x.couldKeepFree(Checks.way(2, 5, 7)), true);
        Checks.due("14: free when job 3 has way 0", x.couldKeepFree(Checks.way(2, 15, 5)), true);
        // Both ends can be free, each in a plan of its own, but 12 .. 15 never is.
        Checks.due("14: in no one plan", x.couldKeepFree(Checks.way(2, 11, 2)), false);
        x.pin(3, 0);
        Checks.due("14: a pin takes it", x.couldKeepFree(Checks.way(2, 5, 7)), false);
        for (int a : Edges.NO_WAY) {
            Checks.due("14: couldKeepFree(" + a + ")", x.couldKeepFree(a), false);
            Checks.due("14: no jobs, " + a, new TwoWayDesk().couldKeepFree(a), false);
        }
        Checks.due("14: no jobs", new TwoWayDesk().couldKeepFree(Edges.ALL_2), true);
        Checks.due("14: it changes nothing", x.jobs(), 15);
        TwoWayDesk full = Edges.eight();
        full.change(7, 1, Checks.way(0, 6, 2));
        Checks.due("14: the eighth job too", full.couldKeepFree(Checks.way(0, 7, 1)), false);
        keepFreeNeedsOnePlan();
    }

    /** Each hour can be kept free, yet not both in the same plan. */
    private static void keepFreeNeedsOnePlan() {
        TwoWayDesk x = new TwoWayDesk();
        x.offer(Checks.way(0, 0, 1), Checks.way(0, 1, 1));
        Checks.due("14: the first hour", x.couldKeepFree(Checks.way(0, 0, 1)), true);
        Checks.due("14: the second hour", x.couldKeepFree(Checks.way(0, 1, 1)), true);
        Checks.due("14: both hours", x.couldKeepFree(Checks.way(0, 0, 2)), false);
    }

    private static void promise15() {
        TwoWayDesk x = Edges.mixed();
        Checks.due("15: forcedJobs()", x.forcedJobs(), 1);
        x.pin(3, 0);
        Checks.due("15: with a pin", x.forcedJobs(), 2);
        x.pin(0, 0);
        Checks.due("15: a pin that forces another", x.forcedJobs(), 4);
        x.withdraw(2);
        Checks.due("15: without one of them", x.forcedJobs(), 3);
        TwoWayDesk y = Edges.eight();
        Checks.due("15: none of eight", y.forcedJobs(), 0);
        for (int j = 0; j < 8; j++) {
            y.pin(j, j & 1);
            Checks.due("15: pins up to " + j, y.forcedJobs(), j + 1);
        }
    }

    private static void promise16() {
        TwoWayDesk x = Edges.mixed();
        // Jobs 0 and 1 can only change together, and job 2 not at all.
        Checks.due("16: flips()", x.flips(), 1);
        x.withdraw(1);
        Checks.due("16: with room", x.flips(), 2);
        x.pin(3, 1);
        Checks.due("16: a pinned job does not flip", x.flips(), 1);
        TwoWayDesk y = Edges.eight();
        Checks.due("16: all eight", y.flips(), 8);
        y.withdraw(7);
        y.withdraw(0);
        Checks.due("16: absent jobs do not count", y.flips(), 6);
    }

    private static void promise17() {
        TwoWayDesk x = new TwoWayDesk();
        x.offer(Edges.ALL_0, Edges.ALL_0);
        x.offer(Edges.ALL_1, Edges.ALL_2);
        Checks.due("17: equal ways flip", x.flips(), 2);
        x.pin(0, 1);
        Checks.due("17: a pin holds one of equal ways", x.forced(0), 1);
        Checks.due("17: and does not flip", x.flips(), 1);
        x.pin(1, 1);
        Checks.due("17: BAD before REFUSED, no job", x.change(2, 1, Edges.ALL_0), TwoWayDesk.BAD);
        Checks.due("17: BAD before REFUSED, no choice", x.change(1, 2, Edges.ALL_0), TwoWayDesk.BAD);
        Checks.due("17: the pinned way is needed", x.change(1, 1, Edges.ALL_0), TwoWayDesk.REFUSED);
        Checks.due("17: REFUSED keeps the way", x.way(1, 1), Edges.ALL_2);
        Checks.due("17: the other way is not", x.change(1, 0, Edges.ALL_0), 0);
        Checks.due("17: the pin stays", x.forced(1), 1);
        Checks.due("17: the pinned way can change", x.change(1, 1, Edges.ALL_1), 1);
        Checks.due("17: the pin stays", x.forced(1), 1);
        Checks.due("17: pin to the way that collides", x.pin(1, 0), TwoWayDesk.REFUSED);
        Checks.due("17: the pin is there", x.unpin(1), true);
        Checks.due("17: forced without it", x.forced(1), 1);
    }
}
