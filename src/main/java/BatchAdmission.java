/**
 * Jobs for a few equal machines that must all be done by a deadline; a job is taken only if
 * there is room for it, whatever order of things that needs.
 *
 * <p>There are at most 3 machines and 8 jobs, so at most 6561 plans: every answer about plans
 * comes from looking at all of them. A plan is a number in base m with one digit for each held
 * job, the held job with the least number having the highest digit. Counting upwards therefore
 * meets the plans in the order in which the document prefers them.
 */
public final class BatchAdmission {
    private static final int MOST_MACHINES = 3;
    private static final int MOST_JOBS = 8;
    private static final int LONGEST_JOB = 60;
    private static final int LATEST_READY = 60;
    private static final int LATEST_DEADLINE = 300;

    private static final int NO_ROOM = -1;
    private static final int WRONG_ARGUMENT = -2;
    private static final int ALL_NUMBERS_USED = -3;

    private final int machineCount;
    private final int deadline;

    // A held job has a length of 1 or more, so 0 marks a number that no held job has.
    private final int[] lengths = new int[MOST_JOBS];
    private final int[] readyTimes = new int[MOST_MACHINES];

    // The ends under the plan laid out last; no answer relies on what an earlier call left here.
    private final int[] ends = new int[MOST_MACHINES];

    public BatchAdmission(int machines, int deadline) {
        this.machineCount = clamp(machines, 1, MOST_MACHINES);
        this.deadline = clamp(deadline, 0, LATEST_DEADLINE);
    }

    public int offer(int length) {
        if (length < 1 || length > LONGEST_JOB) {
            return WRONG_ARGUMENT;
        }
        int number = leastFreeNumber();
        if (number == MOST_JOBS) {
            return ALL_NUMBERS_USED;
        }
        // Where a job fits, every shorter one fits too.
        if (length > room()) {
            return NO_ROOM;
        }
        lengths[number] = length;
        return number;
    }

    public int withdraw(int job) {
        if (!isHeld(job)) {
            return WRONG_ARGUMENT;
        }
        int length = lengths[job];
        lengths[job] = 0;
        return length;
    }

    public int ready(int machine, int time) {
        if (!isMachine(machine)) {
            return WRONG_ARGUMENT;
        }
        int before = readyTimes[machine];
        readyTimes[machine] = clamp(time, 0, LATEST_READY);
        return before;
    }

    public int end() {
        int plan = chosenPlan();
        layOut(plan);
        return greatestEnd();
    }

    public int machineOf(int job) {
        if (!isHeld(job)) {
            return WRONG_ARGUMENT;
        }
        int digits = chosenPlan();
        for (int later = MOST_JOBS - 1; later > job; later--) {
            if (lengths[later] > 0) {
                digits = digits / machineCount;
            }
        }
        return digits % machineCount;
    }

    public int endOf(int machine) {
        if (!isMachine(machine)) {
            return WRONG_ARGUMENT;
        }
        int plan = chosenPlan();
        layOut(plan);
        return ends[machine];
    }

    public int room() {
        int plans = planCount();
        int most = 0;
        for (int plan = 0; plan < plans; plan++) {
            layOut(plan);
            if (greatestEnd() <= deadline) {
                // One more job has the most room on the machine that is done first.
                int left = deadline - leastEnd();
                most = left > most ? left : most;
            }
        }
        return clamp(most, 0, LONGEST_JOB);
    }

    public int jobs() {
        int held = 0;
        for (int job = 0; job < MOST_JOBS; job++) {
            if (lengths[job] > 0) {
                held++;
            }
        }
        return held;
    }

    private static int clamp(int value, int least, int greatest) {
        if (value < least) {
            return least;
        }
        return value > greatest ? greatest : value;
    }

    private boolean isHeld(int job) {
        return job >= 0 && job < MOST_JOBS && lengths[job] > 0;
    }

    private boolean isMachine(int machine) {
        return machine >= 0 && machine < machineCount;
    }

    /** Answers MOST_JOBS if every number is used. */
    private int leastFreeNumber() {
        for (int job = 0; job < MOST_JOBS; job++) {
            if (lengths[job] == 0) {
                return job;
            }
        }
        return MOST_JOBS;
    }

    private int planCount() {
        int plans = 1;
        for (int job = 0; job < MOST_JOBS; job++) {
            if (lengths[job] > 0) {
                plans = plans * machineCount;
            }
        }
        return plans;
    }

    private int chosenPlan() {
        int plans = planCount();
        layOut(0);
        int chosen = 0;
        int leastSoFar = greatestEnd();
        for (int plan = 1; plan < plans; plan++) {
            layOut(plan);
            int planEnd = greatestEnd();
            // An equal end does not count: the plan met earlier is the preferred one.
            if (planEnd < leastSoFar) {
                chosen = plan;
                leastSoFar = planEnd;
            }
        }
        return chosen;
    }

    private void layOut(int plan) {
        for (int machine = 0; machine < machineCount; machine++) {
            ends[machine] = readyTimes[machine];
        }
        int digits = plan;
        for (int job = MOST_JOBS - 1; job >= 0; job--) {
            if (lengths[job] > 0) {
                int machine = digits % machineCount;
                ends[machine] = ends[machine] + lengths[job];
                digits = digits / machineCount;
            }
        }
    }

    private int greatestEnd() {
        int greatest = ends[0];
        for (int machine = 1; machine < machineCount; machine++) {
            greatest = ends[machine] > greatest ? ends[machine] : greatest;
        }
        return greatest;
    }

    private int leastEnd() {
        int least = ends[0];
        for (int machine = 1; machine < machineCount; machine++) {
            least = ends[machine] < least ? ends[machine] : least;
        }
        return least;
    }
}
