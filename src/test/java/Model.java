import java.util.ArrayList;
import java.util.List;
import java.util.TreeMap;

/**
 * A second model of the document for the tests, built otherwise than the program:
 * it lists all plans in dictionary order, and a collision is an hour taken twice.
 */
final class Model {
    private static final class Job {
        final int[] ways = new int[2];
        int pin = -1;

        Job(int a, int b) {
            ways[0] = a;
            ways[1] = b;
        }
    }

    private final TreeMap<Integer, Job> jobs = new TreeMap<>();
    private List<TreeMap<Integer, Integer>> plans = listPlans();

    int offer(int a, int b) {
        int answer = probe(a, b);
        if (answer >= 0) {
            jobs.put(answer, new Job(a, b));
            plans = listPlans();
        }
        return answer;
    }

    int probe(int a, int b) {
        if (hours(a).isEmpty() || hours(b).isEmpty()) {
            return -1;
        }
        if (jobs.size() == 8) {
            return -2;
        }
        int number = 0;
        while (jobs.containsKey(number)) {
            number++;
        }
        jobs.put(number, new Job(a, b));
        boolean none = listPlans().isEmpty();
        jobs.remove(number);
        return none ? -3 : number;
    }

    boolean withdraw(int j) {
        boolean was = jobs.remove(j) != null;
        plans = listPlans();
        return was;
    }

    int change(int j, int k, int a) {
        if (!jobs.containsKey(j) || !isChoice(k) || hours(a).isEmpty()) {
            return -1;
        }
        int old = jobs.get(j).ways[k];
        jobs.get(j).ways[k] = a;
        if (listPlans().isEmpty()) {
            jobs.get(j).ways[k] = old;
            return -3;
        }
        plans = listPlans();
        return k;
    }

    int pin(int j, int k) {
        if (!jobs.containsKey(j) || !isChoice(k)) {
            return -1;
        }
        int old = jobs.get(j).pin;
        jobs.get(j).pin = k;
        if (listPlans().isEmpty()) {
            jobs.get(j).pin = old;
            return -3;
        }
        plans = listPlans();
        return k;
    }

    boolean unpin(int j) {
        if (!jobs.containsKey(j) || jobs.get(j).pin < 0) {
            return false;
        }
        jobs.get(j).pin = -1;
        plans = listPlans();
        return true;
    }

    int jobs() {
        int bits = 0;
        for (int j : jobs.keySet()) {
            bits += 1 << j;
        }
        return bits;
    }

    int way(int j, int k) {
        return jobs.containsKey(j) && isChoice(k) ? jobs.get(j).ways[k] : -1;
    }

    int forced(int j) {
        if (!jobs.containsKey(j)) {
            return -1;
        }
        boolean all0 = plans.stream().allMatch(plan -> plan.get(j) == 0);
        boolean all1 = plans.stream().allMatch(plan -> plan.get(j) == 1);
        return all0 ? 0 : all1 ? 1 : -1;
    }

    boolean implies(int j, int k, int i, int m) {
        if (!jobs.containsKey(j) || !jobs.containsKey(i) || !isChoice(k) || !isChoice(m)) {
            return false;
        }
        return plans.stream().filter(plan -> plan.get(j) == k).allMatch(plan -> plan.get(i) == m);
    }

    int planned(int j) {
        return jobs.containsKey(j) ? plans.get(0).get(j) : -1;
    }

    boolean alwaysTaken(int m, int t) {
        if (m < 0 || m > 2 || t < 0 || t > 19) {
            return false;
        }
        return plans.stream().allMatch(plan -> hoursOf(plan).contains(100 * m + t));
    }

    boolean couldKeepFree(int a) {
        List<Integer> wanted = hours(a);
        if (wanted.isEmpty()) {
            return false;
        }
        return plans.stream().anyMatch(plan -> hoursOf(plan).stream().noneMatch(wanted::contains));
    }

    int forcedJobs() {
        return (int) jobs.keySet().stream().filter(j -> forced(j) >= 0).count();
    }

    int flips() {
        TreeMap<Integer, Integer> first = plans.get(0);
        return (int) plans.stream().filter(plan -> differences(first, plan) == 1).count();
    }

    private static boolean isChoice(int k) {
        return k == 0 || k == 1;
    }

    private static int differences(TreeMap<Integer, Integer> one, TreeMap<Integer, Integer> other) {
        return (int) one.keySet().stream().filter(j -> !one.get(j).equals(other.get(j))).count();
    }

    /** The hours a way takes, as 100 * machine + time; none when it is not a way. */
    private static List<Integer> hours(int a) {
        List<Integer> hours = new ArrayList<>();
        for (int machine = 0; machine <= 2; machine++) {
            for (int start = 0; start <= 19; start++) {
                int length = (a - machine - 4 * start) / 128;
                boolean written = machine + 4 * start + 128 * length == a;
                if (written && length >= 1 && length <= 20 && start + length <= 20) {
                    for (int t = start; t < start + length; t++) {
                        hours.add(100 * machine + t);
                    }
                }
            }
        }
        return hours;
    }

    private List<Integer> hoursOf(TreeMap<Integer, Integer> plan) {
        List<Integer> hours = new ArrayList<>();
        plan.forEach((j, k) -> hours.addAll(hours(jobs.get(j).ways[k])));
        return hours;
    }

    /** Grows partial plans job by job, way 0 before way 1: so they stay in dictionary order. */
    private List<TreeMap<Integer, Integer>> listPlans() {
        List<TreeMap<Integer, Integer>> grown = new ArrayList<>();
        grown.add(new TreeMap<>());
        for (int j : jobs.keySet()) {
            List<TreeMap<Integer, Integer>> next = new ArrayList<>();
            for (TreeMap<Integer, Integer> plan : grown) {
                List<Integer> taken = hoursOf(plan);
                for (int k = 0; k <= 1; k++) {
                    boolean pinnedElsewhere = jobs.get(j).pin == 1 - k;
                    if (!pinnedElsewhere && hours(jobs.get(j).ways[k]).stream().noneMatch(taken::contains)) {
                        TreeMap<Integer, Integer> longer = new TreeMap<>(plan);
                        longer.put(j, k);
                        next.add(longer);
                    }
                }
            }
            grown = next;
        }
        return grown;
    }
}
