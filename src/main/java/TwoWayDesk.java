/**
 * Takes in jobs that each have two ways to be done.
 *
 * A choice of ways for all jobs is held as one number of eight bits. Job 0 has
 * the highest bit, so that the order of these numbers is the dictionary order
 * of the choices, and the least number that is a plan is the first plan.
 */
public final class TwoWayDesk {
    public static final int BAD = -1;
    public static final int FULL = -2;
    public static final int REFUSED = -3;
    public static final int NONE = -1;

    private static final int MACHINES = 3;
    private static final int END_OF_TIME = 20;
    private static final int JOBS = 8;
    private static final int CHOICES = 256;

    private static final int START_UNIT = 4;
    private static final int LENGTH_UNIT = 128;

    /** Way k of job j stands at 2 * j + k. */
    private final int[] ways = new int[16];
    /** The way each job is pinned to, or NONE; without meaning where no job is. */
    private final int[] pins = new int[8];
    private int present;

    public TwoWayDesk() {
        present = 0;
    }

    public int offer(int a, int b) {
        int answer = answerToOffer(a, b);
        if (answer >= 0) {
            place(answer, a, b);
        }
        return answer;
    }

    public int probe(int a, int b) {
        return answerToOffer(a, b);
    }

    public boolean withdraw(int j) {
        if (!hasJob(j)) {
            return false;
        }
        remove(j);
        return true;
    }

    public int change(int j, int k, int a) {
        if (!hasWay(j, k) || !isWay(a)) {
            return BAD;
        }
        int before = ways[2 * j + k];
        ways[2 * j + k] = a;
        if (firstPlan() == NONE) {
            ways[2 * j + k] = before;
            return REFUSED;
        }
        return k;
    }

    public int pin(int j, int k) {
        if (!hasWay(j, k)) {
            return BAD;
        }
        int before = pins[j];
        pins[j] = k;
        if (firstPlan() == NONE) {
            pins[j] = before;
            return REFUSED;
        }
        return k;
    }

    public boolean unpin(int j) {
        if (!hasJob(j) || pins[j] == NONE) {
            return false;
        }
        pins[j] = NONE;
        return true;
    }

    public int jobs() {
        return present;
    }

    public int way(int j, int k) {
        return hasWay(j, k) ? ways[2 * j + k] : NONE;
    }

    public int forced(int j) {
        if (!hasJob(j)) {
            return NONE;
        }
        int first = firstPlan();
        int open = openJobs(first);
        return (open & bitOf(j)) != 0 ? NONE : wayIn(first, j);
    }

    public boolean implies(int j, int k, int i, int m) {
        if (!hasWay(j, k) || !hasWay(i, m)) {
            return false;
        }
        for (int choice = 0; choice < CHOICES; choice++) {
            if (wayIn(choice, j) == k && wayIn(choice, i) != m && isPlan(choice)) {
                return false;
            }
        }
        return true;
    }

    public int planned(int j) {
        if (!hasJob(j)) {
            return NONE;
        }
        int first = firstPlan();
        return wayIn(first, j);
    }

    public boolean alwaysTaken(int m, int t) {
        if (m < 0 || m >= MACHINES || t < 0 || t >= END_OF_TIME) {
            return false;
        }
        // To be taken from t to t + 1 is to collide with the way of length 1 at t.
        return !somePlanAvoids(m + START_UNIT * t + LENGTH_UNIT);
    }

    public boolean couldKeepFree(int a) {
        return isWay(a) && somePlanAvoids(a);
    }

    public int forcedJobs() {
        int first = firstPlan();
        int open = openJobs(first);
        int count = 0;
        for (int j = 0; j < JOBS; j++) {
            if (hasJob(j) && (open & bitOf(j)) == 0) {
                count++;
            }
        }
        return count;
    }

    public int flips() {
        int first = firstPlan();
        int count = 0;
        for (int j = 0; j < JOBS; j++) {
            int flipped = first ^ bitOf(j);
            if (isPlan(flipped)) {
                count++;
            }
        }
        return count;
    }

    private int answerToOffer(int a, int b) {
        if (!isWay(a) || !isWay(b)) {
            return BAD;
        }
        int j = leastFreeNumber();
        if (j == JOBS) {
            return FULL;
        }
        place(j, a, b);
        int first = firstPlan();
        remove(j);
        return first == NONE ? REFUSED : j;
    }

    /** The least number that no job holds; JOBS when all are held. */
    private int leastFreeNumber() {
        int j = 0;
        while (j < JOBS && hasJob(j)) {
            j++;
        }
        return j;
    }

    private void place(int j, int a, int b) {
        ways[2 * j] = a;
        ways[2 * j + 1] = b;
        pins[j] = NONE;
        present |= 1 << j;
    }

    private void remove(int j) {
        present &= ~(1 << j);
    }

    private boolean hasJob(int j) {
        return j >= 0 && j < JOBS && (present & 1 << j) != 0;
    }

    private boolean hasWay(int j, int k) {
        return hasJob(j) && (k == 0 || k == 1);
    }

    /** The least choice that is a plan; NONE when no choice is one. */
    private int firstPlan() {
        for (int choice = 0; choice < CHOICES; choice++) {
            if (isPlan(choice)) {
                return choice;
            }
        }
        return NONE;
    }

    /** The bits of the jobs that have plans with either way. */
    private int openJobs(int first) {
        int open = 0;
        for (int choice = 0; choice < CHOICES; choice++) {
            if (isPlan(choice)) {
                open |= choice ^ first;
            }
        }
        return open;
    }

    private boolean somePlanAvoids(int a) {
        for (int choice = 0; choice < CHOICES; choice++) {
            if (!collidesBelow(choice, JOBS, a) && isPlan(choice)) {
                return true;
            }
        }
        return false;
    }

    private boolean isPlan(int choice) {
        for (int j = 0; j < JOBS; j++) {
            int k = wayIn(choice, j);
            if (!mayChoose(j, k)) {
                return false;
            }
            if (hasJob(j) && collidesBelow(choice, j, ways[2 * j + k])) {
                return false;
            }
        }
        return true;
    }

    private boolean mayChoose(int j, int k) {
        if (!hasJob(j)) {
            // The bit of an absent job stays 0, or one plan would count as two.
            return k == 0;
        }
        return pins[j] == NONE || pins[j] == k;
    }

    /** Whether the way a collides with what is chosen for a job under the given number. */
    private boolean collidesBelow(int choice, int number, int a) {
        for (int j = 0; j < number && j < JOBS; j++) {
            int chosen = ways[2 * j + wayIn(choice, j)];
            if (hasJob(j) && collide(a, chosen)) {
                return true;
            }
        }
        return false;
    }

    private static int bitOf(int j) {
        return 1 << (JOBS - 1 - j);
    }

    private static int wayIn(int choice, int j) {
        return choice >> (JOBS - 1 - j) & 1;
    }

    private static boolean isWay(int a) {
        int machine = a & 3;
        int start = a >> 2 & 31;
        // A negative number has a negative length here.
        int length = a >> 7;
        return machine < MACHINES && length >= 1 && start + length <= END_OF_TIME;
    }

    private static boolean collide(int a, int b) {
        int startA = a >> 2 & 31;
        int startB = b >> 2 & 31;
        int endA = startA + (a >> 7);
        int endB = startB + (b >> 7);
        return (a & 3) == (b & 3) && startA < endB && startB < endA;
    }
}
