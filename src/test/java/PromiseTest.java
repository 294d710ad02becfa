/** For each promise: ordinary inputs, the edges that the document names, and wrong inputs. */
public final class PromiseTest {
    private static final int LOW = Integer.MIN_VALUE;
    private static final int HIGH = Integer.MAX_VALUE;

    private static int wrong = 0;
    private static int checks = 0;

    private static void due(String what, int got, int want) {
        checks++;
        if (got != want) {
            wrong++;
            System.out.println(what + " answered " + got + ", due is " + want);
        }
    }

    private static void dueMachines(String what, BatchAdmission x, int... want) {
        for (int job = 0; job < want.length; job++) {
            due(what + ": machineOf(" + job + ")", x.machineOf(job), want[job]);
        }
    }

    private static void dueEnds(String what, BatchAdmission x, int... want) {
        for (int machine = 0; machine < want.length; machine++) {
            due(what + ": endOf(" + machine + ")", x.endOf(machine), want[machine]);
        }
    }

    private static BatchAdmission holding(int machines, int deadline, int... lengths) {
        BatchAdmission x = new BatchAdmission(machines, deadline);
        for (int job = 0; job < lengths.length; job++) {
            due("setting up: offer(" + lengths[job] + ")", x.offer(lengths[job]), job);
        }
        return x;
    }

    private static int machinesOf(BatchAdmission x) {
        int machines = 0;
        for (int machine = 0; machine < 10; machine++) {
            if (x.endOf(machine) != -2) {
                machines++;
            }
        }
        return machines;
    }

    private static void promise1NewObject() {
        int[][] machines = {{LOW, 1}, {-1, 1}, {0, 1}, {1, 1}, {2, 2}, {3, 3}, {4, 3}, {HIGH, 3}};
        for (int[] row : machines) {
            BatchAdmission x = new BatchAdmission(row[0], 100);
            due("1: machines of a new object of " + row[0], machinesOf(x), row[1]);
            due("1: jobs of a new object", x.jobs(), 0);
            due("1: end of a new object", x.end(), 0);
            for (int job = 0; job < 8; job++) {
                due("1: a new object holds job " + job, x.machineOf(job), -2);
            }
        }
        int[][] deadlines = {{LOW, 0}, {-1, 0}, {0, 0}, {1, 1}, {59, 59}, {60, 60}};
        for (int[] row : deadlines) {
            due("1: room by deadline " + row[0], new BatchAdmission(1, row[0]).room(), row[1]);
        }
        int[][] late = {{299, 59}, {300, 60}, {301, 60}, {HIGH, 60}};
        for (int[] row : late) {
            BatchAdmission x = holding(1, row[0], 60, 60, 60, 60);
            due("1: room behind 240 by deadline " + row[0], x.room(), row[1]);
            due("1: all that is left is taken", x.offer(row[1]), 4);
            due("1: no more than the deadline", x.offer(1), -1);
        }
    }

    private static void promise2Offer() {
        BatchAdmission x = new BatchAdmission(2, 100);
        for (int length : new int[] {LOW, -1, 0, 61, HIGH}) {
            due("2: offer(" + length + ")", x.offer(length), -2);
        }
        due("2: wrong lengths hold nothing", x.jobs(), 0);
        due("2: shortest", x.offer(1), 0);
        due("2: longest", x.offer(60), 1);

        BatchAdmission full = holding(3, 300, 1, 2, 3, 4, 5, 6, 7, 8);
        due("2: a ninth job", full.offer(1), -3);
        due("2: a ninth job of a wrong length", full.offer(0), -2);
        due("2: a ninth job of a wrong length", full.offer(61), -2);
        due("2: still eight", full.jobs(), 8);
        full.withdraw(5);
        full.withdraw(2);
        due("2: the least free number", full.offer(9), 2);
        due("2: the next free number", full.offer(10), 5);
        due("2: full again", full.offer(11), -3);

        BatchAdmission fullAndLate = holding(1, 8, 1, 1, 1, 1, 1, 1, 1, 1);
        due("2: full goes before late", fullAndLate.offer(1), -3);

        BatchAdmission late = holding(1, 10, 4);
        due("2: one after the deadline", late.offer(7), -1);
        due("2: the late job is not held", late.jobs(), 1);
        due("2: the late job takes no room", late.end(), 4);
        due("2: just at the deadline", late.offer(6), 1);

        // Filling the machines in turn would leave 3+2 and 3+2 and no room for a 2 by 6.
        BatchAdmission moved = holding(2, 6, 3, 2, 3, 2, 2);
        dueMachines("2: room needs another plan", moved, 0, 1, 0, 1, 1);

        BatchAdmission idle = new BatchAdmission(2, 10);
        idle.ready(1, 11);
        due("2: a machine without jobs can be late", idle.offer(1), -1);
        idle.ready(1, 10);
        due("2: a machine without jobs is in time", idle.offer(10), 0);
    }

    private static void promise3Withdraw() {
        BatchAdmission x = holding(2, 100, 11, 12, 13);
        for (int job : new int[] {LOW, -1, 3, 7, 8, HIGH}) {
            due("3: withdraw(" + job + ")", x.withdraw(job), -2);
        }
        due("3: nothing withdrawn", x.jobs(), 3);
        due("3: its length", x.withdraw(1), 12);
        due("3: held no longer", x.withdraw(1), -2);
        due("3: one less", x.jobs(), 2);
        dueMachines("3: the others keep their numbers", x, 0, -2, 1);
        due("3: end without it", x.end(), 13);
        due("3: first", x.withdraw(0), 11);
        due("3: last", x.withdraw(2), 13);
        due("3: none", x.jobs(), 0);
        due("3: end of nothing", x.end(), 0);

        BatchAdmission full = holding(3, 300, 1, 2, 3, 4, 5, 6, 7, 8);
        due("3: the last number", full.withdraw(7), 8);
        due("3: past the last number", full.withdraw(8), -2);
    }

    private static void promise4Ready() {
        BatchAdmission x = new BatchAdmission(2, 30);
        for (int machine : new int[] {LOW, -1, 2, 3, HIGH}) {
            due("4: ready(" + machine + ", 5)", x.ready(machine, 5), -2);
        }
        dueEnds("4: wrong machines change nothing", x, 0, 0, -2);
        int[][] times = {{7, 7}, {-1, 0}, {60, 60}, {0, 0}, {61, 60}, {LOW, 0}, {HIGH, 60}, {59, 59}};
        for (int machine = 0; machine < 2; machine++) {
            int before = 0;
            for (int[] row : times) {
                due("4: ready(" + machine + ", " + row[0] + ")", x.ready(machine, row[0]), before);
                due("4: endOf(" + machine + ") after it", x.endOf(machine), row[1]);
                before = row[1];
            }
        }

        BatchAdmission late = holding(1, 10, 10);
        due("4: ready may make all plans late", late.ready(0, 5), 0);
        due("4: end after the deadline", late.end(), 15);
        due("4: the job stays", late.jobs(), 1);
        due("4: and has its machine", late.machineOf(0), 0);
        due("4: ready back", late.ready(0, 0), 5);
        due("4: in time again", late.end(), 10);

        BatchAdmission three = new BatchAdmission(3, 30);
        due("4: third machine", three.ready(2, 4), 0);
        due("4: third machine again", three.ready(2, 3), 4);
        due("4: no fourth machine", three.ready(3, 4), -2);
        due("4: a time is set, not added", three.end(), 3);
    }

    private static void promise5End() {
        due("5: one machine", holding(1, 300, 5, 6, 7).end(), 18);
        due("5: two machines", holding(2, 300, 3, 3, 2, 2, 2).end(), 6);
        due("5: three machines", holding(3, 300, 10, 9, 8, 7, 6, 6, 5).end(), 17);
        due("5: one long job", holding(3, 300, 60, 1, 1, 1).end(), 60);

        BatchAdmission idle = holding(3, 300, 5);
        idle.ready(2, 9);
        due("5: a machine without jobs counts", idle.end(), 9);
        idle.ready(0, 3);
        due("5: as long as it is the greatest", idle.end(), 9);
        idle.ready(1, 8);
        idle.ready(2, 4);
        due("5: the least end", idle.end(), 8);

        BatchAdmission latest = new BatchAdmission(1, 300);
        for (int job = 0; job < 5; job++) {
            latest.offer(60);
        }
        latest.ready(0, 60);
        due("5: far after the deadline", latest.end(), 360);
    }

    private static void promise6MachineOf() {
        BatchAdmission x = holding(3, 300, 10, 9, 8, 7, 6, 6, 5);
        dueMachines("6: ordinary", x, 0, 1, 1, 0, 2, 2, 2, -2);
        for (int job : new int[] {LOW, -1, 7, 8, HIGH}) {
            due("6: machineOf(" + job + ")", x.machineOf(job), -2);
        }

        // The long job fixes the end, so the others may all share the least machine.
        BatchAdmission loose = holding(3, 300, 1, 2, 3, 60);
        dueMachines("6: the least machine, not the evenest plan", loose, 0, 0, 0, 1);

        BatchAdmission gap = holding(2, 300, 4, 5, 4, 5);
        dueMachines("6: before the gap", gap, 0, 0, 1, 1);
        gap.withdraw(0);
        dueMachines("6: a gap does not count", gap, -2, 0, 0, 1);
        gap.offer(5);
        dueMachines("6: the new job with the least number is first", gap, 0, 0, 1, 1);
        due("6: two even halves", gap.end(), 10);

        BatchAdmission pushed = holding(2, 300, 4, 4);
        pushed.ready(0, 8);
        dueMachines("6: away from the machine that is ready late", pushed, 1, 1);
        pushed.ready(1, 8);
        dueMachines("6: and apart again", pushed, 0, 1);
        pushed.ready(1, 4);
        dueMachines("6: of equal ends the least machine for the first job", pushed, 0, 1);
    }

    private static void promise7EndOf() {
        BatchAdmission x = holding(3, 300, 1, 2, 3, 60);
        dueEnds("7: under the chosen plan", x, 6, 60, 0, -2);
        for (int machine : new int[] {LOW, -1, 3, 4, HIGH}) {
            due("7: endOf(" + machine + ")", x.endOf(machine), -2);
        }
        x.ready(2, 7);
        dueEnds("7: ready time of a machine without jobs", x, 6, 60, 7);
        x.ready(1, 7);
        dueEnds("7: the long job moves on", x, 60, 13, 7);
        dueMachines("7: with its plan", x, 1, 1, 1, 0);
        due("7: one machine", holding(1, 300, 5, 6).endOf(1), -2);
        due("7: one machine", holding(1, 300, 5, 6).endOf(0), 11);
        due("7: two machines", holding(2, 300, 5, 6).endOf(2), -2);
    }

    private static void promise8Room() {
        due("8: never more than the longest job", new BatchAdmission(1, 300).room(), 60);
        due("8: by the deadline", new BatchAdmission(3, 59).room(), 59);
        due("8: none", new BatchAdmission(3, 0).room(), 0);
        due("8: one", holding(1, 10, 9).room(), 1);
        due("8: none left", holding(1, 10, 10).room(), 0);

        // The chosen plan has ends 6 and 6; 3+3+2 beside 2+2 leaves more room by 8.
        due("8: room under another plan than the chosen one", holding(2, 8, 3, 3, 2, 2, 2).room(), 4);

        BatchAdmission full = holding(2, 300, 1, 1, 1, 1, 1, 1, 1, 1);
        due("8: even if all numbers are used", full.room(), 60);
        due("8: though offer refuses", full.offer(60), -3);
        BatchAdmission tight = holding(2, 10, 1, 1, 1, 1, 1, 1, 1, 1);
        due("8: tight with all numbers used", tight.room(), 10);
        tight.ready(0, 3);
        due("8: tight with a ready time", tight.room(), 9);

        BatchAdmission late = holding(2, 20, 15);
        late.ready(1, 21);
        due("8: a late machine leaves no room on the others", late.room(), 0);
        late.ready(1, 20);
        due("8: at the deadline it does", late.room(), 5);

        BatchAdmission asked = holding(3, 20, 10, 9, 8, 7, 6, 6, 5);
        due("8: room", asked.room(), 8);
        due("8: asking holds nothing", asked.jobs(), 7);
        due("8: one more than the room", asked.offer(9), -1);
        due("8: just the room", asked.offer(8), 7);
    }

    private static void promise9Jobs() {
        BatchAdmission x = new BatchAdmission(3, 300);
        for (int job = 0; job < 8; job++) {
            due("9: before offer " + job, x.jobs(), job);
            x.offer(60 - job);
        }
        due("9: all", x.jobs(), 8);
        x.offer(1);
        due("9: refused", x.jobs(), 8);
        for (int job = 0; job < 8; job++) {
            x.withdraw(job);
            due("9: after withdraw " + job, x.jobs(), 7 - job);
            x.withdraw(job);
            due("9: after a refused withdraw", x.jobs(), 7 - job);
        }
    }

    private static String stateOf(BatchAdmission x) {
        StringBuilder state = new StringBuilder();
        state.append(x.jobs()).append(' ').append(x.end()).append(' ').append(x.room());
        for (int job = 0; job < 8; job++) {
            state.append(' ').append(x.machineOf(job));
        }
        for (int machine = 0; machine < 3; machine++) {
            state.append(' ').append(x.endOf(machine));
        }
        return state.toString();
    }

    private static void dueUnchanged(String what, BatchAdmission x, String before) {
        checks++;
        String after = stateOf(x);
        if (!after.equals(before)) {
            wrong++;
            System.out.println("10: " + what + " changed [" + before + "] to [" + after + "]");
        }
    }

    private static void promise10RefusalsChangeNothing() {
        BatchAdmission x = holding(2, 20, 9, 8, 7, 6);
        x.ready(1, 3);
        String before = stateOf(x);
        dueUnchanged("asking", x, before);
        due("10: late", x.offer(60), -1);
        dueUnchanged("a late offer", x, before);
        due("10: wrong length", x.offer(0), -2);
        dueUnchanged("a wrong length", x, before);
        due("10: wrong job", x.withdraw(4), -2);
        dueUnchanged("a wrong withdraw", x, before);
        due("10: wrong machine", x.ready(2, 50), -2);
        dueUnchanged("a wrong machine", x, before);
        due("10: wrong machine", x.ready(-1, 50), -2);
        dueUnchanged("a wrong machine", x, before);
        due("10: wrong questions", x.machineOf(4) + x.endOf(2), -4);
        dueUnchanged("a wrong question", x, before);

        BatchAdmission full = holding(3, 300, 8, 7, 6, 5, 4, 3, 2, 1);
        String fullBefore = stateOf(full);
        due("10: full", full.offer(5), -3);
        dueUnchanged("an offer to a full object", full, fullBefore);

        BatchAdmission one = holding(1, 50, 5);
        BatchAdmission other = holding(1, 50, 6);
        one.ready(0, 9);
        due("10: objects share nothing", other.end(), 6);
        due("10: objects share nothing", one.end(), 14);
    }

    public static void main(String[] args) {
        promise1NewObject();
        promise2Offer();
        promise3Withdraw();
        promise4Ready();
        promise5End();
        promise6MachineOf();
        promise7EndOf();
        promise8Room();
        promise9Jobs();
        promise10RefusalsChangeNothing();
        System.out.println(checks + " checks, " + wrong + " wrong");
        if (wrong != 0) {
            System.exit(1);
        }
    }
}
