import java.util.ArrayList;
import java.util.List;
import java.util.TreeMap;

/**
 * Long runs of calls, each answer compared with a second program that follows the document's
 * words one by one: it tries a job by making all plans with it, and finds the room by trying
 * every length. The runs come from a fixed sequence, so they are the same each time.
 */
public final class ModelTest {
    private static final int CALLS = 512;
    private static final int RUNS = 90;

    private static int wrong = 0;
    private static long sequence = 20261115L;

    private static int pick(int bound) {
        sequence = sequence * 6364136223846793005L + 1442695040888963407L;
        return (int) ((sequence >>> 33) % bound);
    }

    private static final class Model {
        final int[] ready;
        final int deadline;
        final TreeMap<Integer, Integer> held = new TreeMap<>();

        Model(int machines, int deadline) {
            this.ready = new int[Math.max(1, Math.min(3, machines))];
            this.deadline = Math.max(0, Math.min(300, deadline));
        }

        /** The ends of the plan that gives the jobs, in their order, these machines. */
        int[] ends(List<Integer> lengths, int[] plan) {
            int[] ends = ready.clone();
            for (int i = 0; i < plan.length; i++) {
                ends[plan[i]] += lengths.get(i);
            }
            return ends;
        }

        static int greatest(int[] ends) {
            int greatest = ends[0];
            for (int end : ends) {
                greatest = Math.max(greatest, end);
            }
            return greatest;
        }

        int leastEnd(List<Integer> lengths, int from, int[] ends) {
            if (from == lengths.size()) {
                return greatest(ends);
            }
            int least = Integer.MAX_VALUE;
            for (int machine = 0; machine < ends.length; machine++) {
                ends[machine] += lengths.get(from);
                least = Math.min(least, leastEnd(lengths, from + 1, ends));
                ends[machine] -= lengths.get(from);
            }
            return least;
        }

        int leastEnd(List<Integer> lengths) {
            return leastEnd(lengths, 0, ready.clone());
        }

        List<Integer> lengths() {
            return new ArrayList<>(held.values());
        }

        boolean fits(int length) {
            List<Integer> more = lengths();
            more.add(length);
            return leastEnd(more) <= deadline;
        }

        /** Settles job after job on the least machine from which the least end can be reached. */
        int[] chosenPlan() {
            List<Integer> lengths = lengths();
            int least = leastEnd(lengths);
            int[] plan = new int[lengths.size()];
            int[] ends = ready.clone();
            for (int i = 0; i < plan.length; i++) {
                for (int machine = 0; machine < ready.length; machine++) {
                    ends[machine] += lengths.get(i);
                    if (leastEnd(lengths, i + 1, ends) == least) {
                        plan[i] = machine;
                        break;
                    }
                    ends[machine] -= lengths.get(i);
                }
            }
            return plan;
        }

        int offer(int length) {
            if (length < 1 || length > 60) {
                return -2;
            }
            if (held.size() == 8) {
                return -3;
            }
            if (!fits(length)) {
                return -1;
            }
            int number = 0;
            while (held.containsKey(number)) {
                number++;
            }
            held.put(number, length);
            return number;
        }

        int withdraw(int job) {
            Integer length = held.remove(job);
            return length == null ? -2 : length;
        }

        int ready(int machine, int time) {
            if (machine < 0 || machine >= ready.length) {
                return -2;
            }
            int before = ready[machine];
            ready[machine] = Math.max(0, Math.min(60, time));
            return before;
        }

        int machineOf(int job) {
            if (!held.containsKey(job)) {
                return -2;
            }
            return chosenPlan()[held.headMap(job).size()];
        }

        int endOf(int machine) {
            if (machine < 0 || machine >= ready.length) {
                return -2;
            }
            return ends(lengths(), chosenPlan())[machine];
        }

        int room() {
            for (int length = 60; length >= 1; length--) {
                if (fits(length)) {
                    return length;
                }
            }
            return 0;
        }
    }

    private static void due(int run, int call, String what, int got, int want) {
        if (got != want) {
            wrong++;
            System.out.println("run " + run + ", call " + call + ": " + what + " answered " + got + ", due is " + want);
        }
    }

    private static void oneCall(int run, int call, int longest, BatchAdmission x, Model model) {
        int kind = pick(20);
        if (kind < 6) {
            int length = pick(longest + 2);
            due(run, call, "offer(" + length + ")", x.offer(length), model.offer(length));
        } else if (kind < 9) {
            int job = pick(10) - 1;
            due(run, call, "withdraw(" + job + ")", x.withdraw(job), model.withdraw(job));
        } else if (kind < 11) {
            int machine = pick(5) - 1;
            int time = pick(4) == 0 ? pick(70) - 5 : pick(longest + 1);
            due(run, call, "ready(" + machine + ", " + time + ")", x.ready(machine, time), model.ready(machine, time));
        } else if (kind < 13) {
            due(run, call, "end()", x.end(), model.leastEnd(model.lengths()));
        } else if (kind < 16) {
            int job = pick(10) - 1;
            due(run, call, "machineOf(" + job + ")", x.machineOf(job), model.machineOf(job));
        } else if (kind < 18) {
            int machine = pick(5) - 1;
            due(run, call, "endOf(" + machine + ")", x.endOf(machine), model.endOf(machine));
        } else if (kind < 19) {
            due(run, call, "room()", x.room(), model.room());
        } else {
            due(run, call, "jobs()", x.jobs(), model.held.size());
        }
    }

    private static void oneRun(int run) {
        int machines = run % 10 == 9 ? pick(7) - 1 : 1 + run % 3;
        int longest = new int[] {6, 20, 60}[pick(3)];
        // From too tight for two jobs to roomy for eight.
        int deadline = pick(8 * longest / Math.max(1, Math.min(3, machines)) + 20) - 2;
        BatchAdmission x = new BatchAdmission(machines, deadline);
        Model model = new Model(machines, deadline);
        for (int call = 1; call <= CALLS; call++) {
            oneCall(run, call, longest, x, model);
        }
    }

    /** A deadline from just late enough for all these jobs to a room of more than one job. */
    private static int deadlineFor(int machines, List<Integer> lengths) {
        return new Model(machines, 0).leastEnd(lengths) + pick(4) * pick(30);
    }

    /** Every answer of an object that holds all it can, where the plans are most. */
    private static void oneFullObject(int run) {
        int machines = 1 + run % 3;
        int longest = 2 + pick(machines == 1 ? 36 : 59);
        List<Integer> lengths = new ArrayList<>();
        for (int job = 0; job < 8; job++) {
            lengths.add(1 + pick(longest));
        }
        int deadline = deadlineFor(machines, lengths);
        BatchAdmission x = new BatchAdmission(machines, deadline);
        Model model = new Model(machines, deadline);
        for (int job = 0; job < 8; job++) {
            int length = lengths.get(job);
            due(run, job, "full: offer(" + length + ")", x.offer(length), model.offer(length));
        }
        due(run, 0, "full: jobs()", x.jobs(), 8);
        due(run, 0, "full: room()", x.room(), model.room());
        for (int machine = 0; machine < machines; machine++) {
            int time = pick(3) * pick(longest) / 4;
            due(run, machine, "full: ready", x.ready(machine, time), model.ready(machine, time));
            due(run, machine, "full: room() after ready", x.room(), model.room());
        }
        due(run, 0, "full: offer(1)", x.offer(1), -3);
        due(run, 0, "full: end()", x.end(), model.leastEnd(model.lengths()));
        int[] plan = model.chosenPlan();
        for (int job = 0; job < 8; job++) {
            due(run, job, "full: machineOf(" + job + ")", x.machineOf(job), plan[job]);
        }
        int[] ends = model.ends(model.lengths(), plan);
        for (int machine = 0; machine < machines; machine++) {
            due(run, machine, "full: endOf(" + machine + ")", x.endOf(machine), ends[machine]);
        }
    }

    public static void main(String[] args) {
        for (int run = 0; run < RUNS; run++) {
            oneRun(run);
        }
        for (int run = 0; run < 200; run++) {
            oneFullObject(run);
        }
        System.out.println(RUNS + " runs of " + CALLS + " calls and 200 full objects, " + wrong + " answers wrong");
        if (wrong != 0) {
            System.exit(1);
        }
    }
}
