/** What the tests start from: inputs past the bounds, and desks that are tight, full or mixed. */
final class Edges {
    static final int LEAST = Integer.MIN_VALUE;
    static final int GREATEST = Integer.MAX_VALUE;

    /** Numbers no job can hold; many would be one if only their low bits counted. */
    static final int[] NO_JOB = {
        -1, 8, -2, -7, -8, 9, 15, 16, 31, 32, 33, 39, 64, 256, -32, -256, 1 << 30,
        LEAST, LEAST + 1, GREATEST - 1, GREATEST};
    /** Neither 0 nor 1; many would be if only their low bits counted. */
    static final int[] NO_CHOICE = {-1, 2, -2, 3, 4, 5, 32, 33, 256, 257, LEAST, LEAST + 1, GREATEST - 1, GREATEST};
    /** One or more for each bound of a way, and both ends of int. */
    static final int[] NO_WAY = {
        0, -1, -128, 127, 131, 128 + 4 * 20, 128 + 4 * 31, 128 * 21, 128 * 20 + 4, 256 + 4 * 19,
        128 * 2 + 3, LEAST, LEAST + 128, GREATEST, 1 << 30};

    /** Whole machines: two jobs with the same whole machine always collide. */
    static final int ALL_0 = Checks.way(0, 0, 20);
    static final int ALL_1 = Checks.way(1, 0, 20);
    static final int ALL_2 = Checks.way(2, 0, 20);

    private Edges() {
    }

    /** Two jobs that share machines 0 and 1, so that nothing else goes there. */
    static TwoWayDesk tight() {
        TwoWayDesk x = new TwoWayDesk();
        x.offer(ALL_0, ALL_1);
        x.offer(ALL_0, ALL_1);
        return x;
    }

    static TwoWayDesk tightAndPinned() {
        TwoWayDesk x = tight();
        x.pin(0, 1);
        return x;
    }

    /** Eight jobs that do not hinder each other: job j at j on machine 0 or 1. */
    static TwoWayDesk eight() {
        TwoWayDesk x = new TwoWayDesk();
        for (int j = 0; j < 8; j++) {
            x.offer(Checks.way(0, j, 1), Checks.way(1, j, 1));
        }
        return x;
    }

    /** Pins in all three states: none, way 0 and way 1. */
    static TwoWayDesk eightAndPins() {
        TwoWayDesk x = eight();
        for (int j = 0; j < 8; j++) {
            if (j % 3 != 2) {
                x.pin(j, j % 3);
            }
        }
        return x;
    }

    static TwoWayDesk eightPinnedTo(int k) {
        TwoWayDesk x = eight();
        for (int j = 0; j < 8; j++) {
            x.pin(j, k);
        }
        return x;
    }

    /** Jobs 0 and 1 share two machines, job 2 is driven to its way 1, job 3 is free. */
    static TwoWayDesk mixed() {
        TwoWayDesk x = new TwoWayDesk();
        x.offer(Checks.way(0, 0, 10), Checks.way(1, 0, 10));
        x.offer(Checks.way(0, 0, 10), Checks.way(1, 0, 10));
        x.offer(Checks.way(0, 4, 1), Checks.way(2, 4, 1));
        x.offer(Checks.way(2, 10, 5), Checks.way(2, 12, 8));
        return x;
    }

    /** Every hour of every machine is taken in every plan. */
    static TwoWayDesk allTaken() {
        TwoWayDesk x = new TwoWayDesk();
        x.offer(ALL_0, ALL_0);
        x.offer(ALL_1, ALL_1);
        x.offer(ALL_2, ALL_2);
        return x;
    }
}
