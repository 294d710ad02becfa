/**
 * One test for each sentence of the document that names a boundary case. Each test begins with
 * the sentence's own words, and a wrong answer is printed under them.
 */
public final class BoundaryTest {
    private static final int LOW = Integer.MIN_VALUE;
    private static final int HIGH = Integer.MAX_VALUE;
    private static final int[] NO_MACHINES_OF_3 = {LOW, LOW + 1, -3, -2, -1, 3, 4, 5, 6, 256, 65536, HIGH};
    private static final int[] NO_NUMBERS = {LOW, LOW + 1, -8, -2, -1, 8, 9, 15, 16, 256, 65536, HIGH};
    private static final int[] NO_LENGTHS = {LOW, LOW + 1, -60, -2, -1, 0, 61, 62, 120, 257, 65537, HIGH};

    private static int tests = 0;
    private static int checks = 0;
    private static int wrong = 0;
    private static String where = "";

    private static void sentence(String heading, String words) {
        tests++;
        where = heading + ", \"" + words + "\"";
    }

    private static void sentence(String heading, String words, String boundary) {
        sentence(heading, words);
        where = where + " where " + boundary;
    }

    private static void report(String what) {
        wrong++;
        System.out.println(where + ": " + what);
    }

    private static void due(String call, int got, int want) {
        checks++;
        if (got != want) {
            report(call + " answered " + got + ", due is " + want);
        }
    }

    private static void dueOffers(BatchAdmission x, int... lengthsAndAnswers) {
        for (int i = 0; i < lengthsAndAnswers.length; i += 2) {
            int length = lengthsAndAnswers[i];
            due("offer(" + length + ")", x.offer(length), lengthsAndAnswers[i + 1]);
        }
    }

    private static void dueMachines(BatchAdmission x, int... want) {
        for (int job = 0; job < want.length; job++) {
            due("machineOf(" + job + ")", x.machineOf(job), want[job]);
        }
    }

    private static void dueEnds(BatchAdmission x, int... want) {
        for (int machine = 0; machine < want.length; machine++) {
            due("endOf(" + machine + ")", x.endOf(machine), want[machine]);
        }
    }

    private static BatchAdmission holding(int machines, int deadline, int... lengths) {
        BatchAdmission x = new BatchAdmission(machines, deadline);
        for (int job = 0; job < lengths.length; job++) {
            due("offer(" + lengths[job] + ") while setting up", x.offer(lengths[job]), job);
        }
        return x;
    }

    private static BatchAdmission full() {
        return holding(3, 300, 10, 20, 30, 40, 50, 60, 1, 2);
    }

    /** Everything that questions can tell; two objects of equal answers are taken as equal. */
    private static String answers(BatchAdmission x) {
        StringBuilder all = new StringBuilder();
        all.append("jobs ").append(x.jobs()).append(", end ").append(x.end()).append(", room ").append(x.room());
        all.append(", machines");
        for (int job = 0; job < 8; job++) {
            all.append(' ').append(x.machineOf(job));
        }
        all.append(", ends");
        for (int machine = 0; machine < 3; machine++) {
            all.append(' ').append(x.endOf(machine));
        }
        return all.toString();
    }

    /** The lengths and ready times as well; afterwards the object is used up. */
    private static String lastAnswers(BatchAdmission x) {
        StringBuilder all = new StringBuilder(answers(x));
        all.append(", ready times");
        for (int machine = 0; machine < 3; machine++) {
            all.append(' ').append(x.ready(machine, 0));
        }
        all.append(", lengths");
        for (int job = 0; job < 8; job++) {
            all.append(' ').append(x.withdraw(job));
        }
        return all.toString();
    }

    private static void dueSame(String what, String got, String want) {
        checks++;
        if (!got.equals(want)) {
            report(what + " left [" + got + "], due is [" + want + "]");
        }
    }

    // What it is

    private static void lastCallOfAnObject() {
        sentence("What it is", "An object is used for at most 512 calls after it has been made");
        BatchAdmission asked = new BatchAdmission(3, 100);
        for (int call = 1; call <= 511; call++) {
            due("call " + call + ", jobs()", asked.jobs(), 0);
        }
        due("call 512, offer(60)", asked.offer(60), 0);

        BatchAdmission changed = new BatchAdmission(2, 100);
        for (int call = 1; call <= 509; call += 2) {
            int length = 1 + call % 60;
            due("call " + call + ", offer(" + length + ")", changed.offer(length), 0);
            due("call " + (call + 1) + ", withdraw(0)", changed.withdraw(0), length);
        }
        due("call 511, offer(7)", changed.offer(7), 0);
        due("call 512, end()", changed.end(), 7);
    }

    // Terms

    private static void machineNumbers() {
        sentence("Terms", "MACHINES are 0 to m-1.");
        for (int m = 1; m <= 3; m++) {
            BatchAdmission x = new BatchAdmission(m, 100);
            for (int machine = -1; machine <= 4; machine++) {
                boolean is = machine >= 0 && machine <= m - 1;
                due("m " + m + ", endOf(" + machine + ")", x.endOf(machine), is ? 0 : -2);
                due("m " + m + ", ready(" + machine + ", 1)", x.ready(machine, 1), is ? 0 : -2);
            }
            for (int job = 0; job < m; job++) {
                due("m " + m + ", offer(50)", x.offer(50), job);
            }
            due("m " + m + ", last machine's job", x.machineOf(m - 1), m - 1);
            due("m " + m + ", offer past the last machine", x.offer(50), -1);
        }
    }

    private static void readyTimes() {
        sentence("Terms", "A machine has a READY time from 0 to 60 (0 at the start).");
        BatchAdmission x = new BatchAdmission(3, 100);
        for (int machine = 0; machine < 3; machine++) {
            due("ready(" + machine + ", 60) at the start", x.ready(machine, 60), 0);
            due("ready(" + machine + ", 0) after 60", x.ready(machine, 0), 60);
            due("ready(" + machine + ", 0) after 0", x.ready(machine, 0), 0);
        }
        dueEnds(new BatchAdmission(3, 100), 0, 0, 0);
    }

    private static void jobNumbers() {
        sentence("Terms", "JOBS have the numbers 0 to 7; at most 8 are held; a job has a length from 1 to 60.");
        BatchAdmission x = new BatchAdmission(3, 300);
        dueOffers(x, 1, 0, 60, 1, 1, 2, 60, 3, 1, 4, 60, 5, 1, 6, 60, 7, 1, -3);
        due("jobs()", x.jobs(), 8);
        due("withdraw(8)", x.withdraw(8), -2);
        due("withdraw(7)", x.withdraw(7), 60);
        due("withdraw(0)", x.withdraw(0), 1);
        due("withdraw(-1)", x.withdraw(-1), -2);
    }

    private static void planOfNoJobs() {
        sentence("Terms", "A PLAN gives every held job a machine.", "none is held");
        BatchAdmission x = new BatchAdmission(3, 50);
        dueSame("a new object", answers(x), "jobs 0, end 0, room 50, machines -2 -2 -2 -2 -2 -2 -2 -2, ends 0 0 0");
        x.ready(0, 5);
        x.ready(1, 9);
        x.ready(2, 7);
        dueSame("ready", answers(x), "jobs 0, end 9, room 45, machines -2 -2 -2 -2 -2 -2 -2 -2, ends 5 9 7");
    }

    private static void machinesWithoutJobs() {
        sentence("Terms", "(machines without jobs count too)");
        for (int machine = 0; machine < 3; machine++) {
            BatchAdmission x = holding(3, 60, 5);
            due("ready(" + machine + ", 40)", x.ready(machine, 40), 0);
            due("end() with machine " + machine + " ready at 40", x.end(), 40);
            due("endOf(" + machine + ")", x.endOf(machine), 40);
            due("ready(" + machine + ", 60)", x.ready(machine, 60), 40);
            due("room() with an idle machine at the deadline", x.room(), 60);
        }
        BatchAdmission late = holding(2, 59, 5);
        due("ready(1, 60)", late.ready(1, 60), 0);
        dueOffers(late, 1, -1);
        due("room() with an idle machine after the deadline", late.room(), 0);
    }

    private static void equalPlans() {
        sentence("Terms", "the one that gives the held job with the least number the least machine");
        dueMachines(holding(3, 300, 7), 0);
        dueMachines(holding(3, 300, 7, 7), 0, 1);
        dueMachines(holding(3, 300, 7, 7, 7), 0, 1, 2);
        // Job 0 comes first: 0 0 1 1 1 and 1 1 0 0 0 have the same end.
        dueMachines(holding(2, 300, 3, 3, 2, 2, 2), 0, 0, 1, 1, 1);
        // The idle machine 2 sets the end, so that job 0 may be behind the ready time of machine 0.
        BatchAdmission x = holding(3, 300, 7);
        x.ready(0, 20);
        x.ready(2, 27);
        dueMachines(x, 0);
        x.ready(2, 26);
        dueMachines(x, 1);
    }

    private static void equalPlansForTheNextJob() {
        sentence("Terms", "among those the one that gives the next held job the least machine, and so on");
        dueMachines(holding(3, 300, 60, 1, 1, 1, 1, 1, 1, 1), 0, 1, 1, 1, 1, 1, 1, 1);
        dueMachines(holding(3, 300, 1, 1, 1, 1, 1, 1, 1, 60), 0, 0, 0, 0, 0, 0, 0, 1);
        dueMachines(holding(3, 300, 4, 4, 4, 4, 4, 4, 4, 4), 0, 0, 0, 1, 1, 1, 2, 2);
        // The next held job is job 3: numbers that no job has are passed over.
        BatchAdmission gaps = holding(2, 300, 5, 9, 9, 5, 9, 9, 9, 5);
        for (int job : new int[] {1, 2, 4, 5, 6}) {
            due("withdraw(" + job + ")", gaps.withdraw(job), 9);
        }
        dueMachines(gaps, 0, -2, -2, 0, -2, -2, -2, 1);
        // A job that comes later with a smaller number is looked at first.
        dueOffers(gaps, 10, 1);
        dueMachines(gaps, 0, 0, -2, 1, -2, -2, -2, 1);
        due("end()", gaps.end(), 15);
    }

    private static void greatestEnds() {
        sentence("Terms", "(All ends are below 600.)");
        BatchAdmission one = holding(1, 300, 60, 60, 60, 60, 60);
        due("ready(0, 60)", one.ready(0, 60), 0);
        due("end() of 300 behind 60", one.end(), 360);
        due("endOf(0) of 300 behind 60", one.endOf(0), 360);
        BatchAdmission two = holding(2, 300, 60, 60, 60, 60, 60, 60, 60, 60);
        two.ready(0, 60);
        two.ready(1, 60);
        due("end() of 480 behind 60 and 60", two.end(), 300);
        dueMachines(two, 0, 0, 0, 0, 1, 1, 1, 1);
        BatchAdmission three = holding(3, 300, 60, 60, 60, 60, 60, 60, 60, 60);
        three.ready(2, 60);
        dueMachines(three, 0, 0, 0, 1, 1, 1, 2, 2);
        dueEnds(three, 180, 180, 180, -2);
    }

    // Promise 1

    private static void tooFewMachines() {
        sentence("Promise 1", "m, less than 1 becomes 1");
        for (int machines : new int[] {LOW, LOW + 1, -3, -2, -1, 0, 1}) {
            BatchAdmission x = new BatchAdmission(machines, 10);
            due("machines " + machines + ", endOf(0)", x.endOf(0), 0);
            due("machines " + machines + ", endOf(1)", x.endOf(1), -2);
            dueOffers(x, 10, 0, 1, -1);
        }
        due("machines 2, endOf(1)", new BatchAdmission(2, 10).endOf(1), 0);
    }

    private static void tooManyMachines() {
        sentence("Promise 1", "more than 3 becomes 3");
        for (int machines : new int[] {3, 4, 5, 6, 257, 65537, HIGH - 1, HIGH}) {
            BatchAdmission x = new BatchAdmission(machines, 10);
            due("machines " + machines + ", endOf(2)", x.endOf(2), 0);
            due("machines " + machines + ", endOf(3)", x.endOf(3), -2);
            dueOffers(x, 10, 0, 10, 1, 10, 2, 1, -1);
        }
        due("machines 2, endOf(2)", new BatchAdmission(2, 10).endOf(2), -2);
    }

    private static void tooEarlyDeadline() {
        sentence("Promise 1", "deadline: less than 0 becomes 0");
        for (int deadline : new int[] {LOW, LOW + 1, -300, -60, -1, 0}) {
            BatchAdmission x = new BatchAdmission(2, deadline);
            due("deadline " + deadline + ", room()", x.room(), 0);
            dueOffers(x, 1, -1, 60, -1);
            due("deadline " + deadline + ", end()", x.end(), 0);
        }
        BatchAdmission one = new BatchAdmission(1, 1);
        due("deadline 1, room()", one.room(), 1);
        dueOffers(one, 2, -1, 1, 0);
    }

    private static void tooLateDeadline() {
        sentence("Promise 1", "more than 300 becomes 300");
        for (int deadline : new int[] {300, 301, 302, 360, 600, 65836, HIGH - 1, HIGH}) {
            BatchAdmission x = holding(1, deadline, 60, 60, 60, 60, 59);
            due("deadline " + deadline + ", room()", x.room(), 1);
            dueOffers(x, 2, -1, 1, 5, 1, -1);
        }
        BatchAdmission before = holding(1, 299, 60, 60, 60, 60);
        dueOffers(before, 60, -1, 59, 4);
    }

    private static void newObjectIsEmpty() {
        sentence("Promise 1", "No job is held.");
        for (int m = 1; m <= 3; m++) {
            BatchAdmission x = new BatchAdmission(m, 300);
            due("jobs()", x.jobs(), 0);
            for (int job = 0; job < 8; job++) {
                due("machineOf(" + job + ")", x.machineOf(job), -2);
                due("withdraw(" + job + ")", x.withdraw(job), -2);
            }
            dueOffers(x, 1, 0);
        }
        BatchAdmission used = full();
        due("jobs() of a new object beside a full one", new BatchAdmission(3, 300).jobs(), 0);
        due("jobs() of the full one", used.jobs(), 8);
    }

    // Promise 2

    private static void wrongLengths() {
        sentence("Promise 2", "If length is not from 1 to 60: answers -2.");
        BatchAdmission x = new BatchAdmission(2, 300);
        for (int length : NO_LENGTHS) {
            due("offer(" + length + ")", x.offer(length), -2);
        }
        dueOffers(x, 1, 0, 60, 1);
        // -2 is named before -3 and -1.
        BatchAdmission full = full();
        BatchAdmission noRoom = new BatchAdmission(1, 0);
        for (int length : NO_LENGTHS) {
            due("all numbers used, offer(" + length + ")", full.offer(length), -2);
            due("no room, offer(" + length + ")", noRoom.offer(length), -2);
        }
    }

    private static void eightHeld() {
        sentence("Promise 2", "If 8 jobs are held: -3.");
        BatchAdmission x = holding(3, 300, 1, 1, 1, 1, 1, 1, 1);
        dueOffers(x, 1, 7, 1, -3, 60, -3);
        due("withdraw(3)", x.withdraw(3), 1);
        dueOffers(x, 60, 3, 1, -3);
        // -3 is named before -1.
        BatchAdmission noRoom = holding(1, 8, 1, 1, 1, 1, 1, 1, 1, 1);
        dueOffers(noRoom, 1, -3, 60, -3);
        noRoom.ready(0, 60);
        dueOffers(noRoom, 1, -3, 60, -3);
    }

    private static void afterTheDeadline() {
        sentence("Promise 2", "If with this job every plan has an end after the deadline (greater than it): -1.");
        dueOffers(new BatchAdmission(1, 30), 31, -1, 30, 0);
        dueOffers(holding(1, 30, 29), 2, -1, 1, 1, 1, -1);
        dueOffers(holding(3, 30, 29, 28, 27), 4, -1, 3, 3, 3, -1, 2, 4, 1, 5, 1, -1);
        BatchAdmission ready = new BatchAdmission(2, 30);
        ready.ready(0, 10);
        ready.ready(1, 12);
        dueOffers(ready, 21, -1, 20, 0, 19, -1, 18, 1, 1, -1);
    }

    private static void onlyOnePlanInTime() {
        sentence("Promise 2", "every plan has an end after the deadline", "just one plan has not");
        // By 6: 3+3 and 2+2+2 alone, though 3+2 and 3+2 stood in time before.
        dueOffers(holding(2, 6, 3, 2, 3, 2), 3, -1, 2, 4, 1, -1);
        // By 17: 9+8, 10+7 and 6+6+5, each machine filled to the end.
        dueOffers(holding(3, 17, 10, 9, 8, 7, 6, 6), 6, -1, 5, 6, 1, -1);
        // Behind ready times 1, 2 and 3 by 10: 9, 8 and 7 fill all three.
        BatchAdmission x = new BatchAdmission(3, 10);
        x.ready(0, 1);
        x.ready(1, 2);
        x.ready(2, 3);
        dueOffers(x, 7, 0, 8, 1, 9, 2, 1, -1);
        dueMachines(x, 2, 1, 0);
    }

    private static void refusedOffers() {
        sentence("Promise 2", "In these cases nothing is changed.");
        BatchAdmission x = holding(2, 20, 9, 8, 7, 6);
        x.ready(0, 5);
        String before = answers(x);
        for (int length : NO_LENGTHS) {
            due("offer(" + length + ")", x.offer(length), -2);
            dueSame("offer(" + length + ")", answers(x), before);
        }
        for (int length : new int[] {6, 7, 59, 60}) {
            due("offer(" + length + ")", x.offer(length), -1);
            dueSame("offer(" + length + ")", answers(x), before);
        }
        dueSame("all of them", lastAnswers(x), before + ", ready times 5 0 -2, lengths 9 8 7 6 -2 -2 -2 -2");

        BatchAdmission full = full();
        String fullBefore = answers(full);
        for (int length : new int[] {1, 2, 59, 60}) {
            due("offer(" + length + ")", full.offer(length), -3);
            dueSame("offer(" + length + ")", answers(full), fullBefore);
        }
        dueSame("all of them", lastAnswers(full), fullBefore + ", ready times 0 0 0, lengths 10 20 30 40 50 60 1 2");
    }

    private static void leastFreeNumber() {
        sentence("Promise 2", "gets the least number that no held job has; answers that number.");
        for (int free = 0; free < 8; free++) {
            BatchAdmission x = full();
            due("withdraw(" + free + ")", x.withdraw(free) > 0 ? 1 : 0, 1);
            dueOffers(x, 33, free, 33, -3);
            due("withdraw(" + free + ") again", x.withdraw(free), 33);
        }
        BatchAdmission x = full();
        for (int job : new int[] {7, 0, 5, 2}) {
            x.withdraw(job);
        }
        dueOffers(x, 31, 0, 32, 2, 33, 5, 34, 7, 35, -3);
        due("withdraw(5)", x.withdraw(5), 33);
        // A refused offer uses up no number.
        dueOffers(x, 0, -2, 61, -2, 36, 5);
        BatchAdmission late = holding(1, 10, 5);
        dueOffers(late, 6, -1, 6, -1, 5, 1);
    }

    // Promise 3

    private static void heldNoLonger() {
        sentence("Promise 3", "The job is held no longer. Answers its length");
        BatchAdmission x = full();
        int[] lengths = {10, 20, 30, 40, 50, 60, 1, 2};
        for (int job : new int[] {7, 0, 3, 6, 1, 5, 2, 4}) {
            int before = x.jobs();
            due("withdraw(" + job + ")", x.withdraw(job), lengths[job]);
            due("machineOf(" + job + ") after it", x.machineOf(job), -2);
            due("jobs() after it", x.jobs(), before - 1);
        }
        dueSame("the last withdraw", answers(x), answers(new BatchAdmission(3, 300)));

        // Also where every plan is late: then it may be what brings them back in time.
        BatchAdmission late = holding(1, 20, 10, 10);
        late.ready(0, 10);
        dueOffers(late, 1, -1);
        due("withdraw(0) when late", late.withdraw(0), 10);
        due("end()", late.end(), 20);
        due("withdraw(1)", late.withdraw(1), 10);
        dueOffers(late, 10, 0);
    }

    private static void withdrawOfNoJob() {
        sentence("Promise 3", "or -2 if no held job has the number.");
        BatchAdmission full = full();
        String before = answers(full);
        for (int job : NO_NUMBERS) {
            due("withdraw(" + job + ") of 8 held", full.withdraw(job), -2);
        }
        dueSame("wrong numbers", answers(full), before);
        BatchAdmission empty = new BatchAdmission(3, 300);
        for (int job = 0; job < 8; job++) {
            due("withdraw(" + job + ") of none held", empty.withdraw(job), -2);
        }
        BatchAdmission gap = holding(2, 300, 5, 6, 7);
        due("withdraw(1)", gap.withdraw(1), 6);
        due("withdraw(1) again", gap.withdraw(1), -2);
        due("withdraw(3), never held", gap.withdraw(3), -2);
        due("jobs()", gap.jobs(), 2);
    }

    // Promise 4

    private static void tooEarlyReady() {
        sentence("Promise 4", "less than 0 becomes 0");
        for (int time : new int[] {LOW, LOW + 1, -61, -60, -1, 0}) {
            BatchAdmission x = holding(1, 100, 5);
            due("ready(0, 9)", x.ready(0, 9), 0);
            due("ready(0, " + time + ")", x.ready(0, time), 9);
            due("end() after it", x.end(), 5);
            due("ready(0, 1) after it", x.ready(0, 1), 0);
            due("ready(0, 0) after 1", x.ready(0, 0), 1);
        }
    }

    private static void tooLateReady() {
        sentence("Promise 4", "more than 60 becomes 60");
        for (int time : new int[] {60, 61, 62, 120, 256, 65536, HIGH - 1, HIGH}) {
            BatchAdmission x = holding(1, 100, 5);
            due("ready(0, " + time + ")", x.ready(0, time), 0);
            due("end() after it", x.end(), 65);
            due("room() after it", x.room(), 35);
            due("ready(0, 59) after it", x.ready(0, 59), 60);
            due("ready(0, 0) after 59", x.ready(0, 0), 59);
        }
    }

    private static void readyAfterTheDeadline() {
        sentence("Promise 4", "even if then every plan has an end after the deadline.");
        BatchAdmission x = holding(2, 20, 20, 19);
        due("ready(1, 1)", x.ready(1, 1), 0);
        due("end() at the deadline", x.end(), 20);
        due("ready(1, 2)", x.ready(1, 2), 1);
        due("end() one after it", x.end(), 21);
        due("ready(0, 60)", x.ready(0, 60), 0);
        dueSame("ready", answers(x), "jobs 2, end 60, room 0, machines 1 1 -2 -2 -2 -2 -2 -2, ends 60 41 -2");
        due("ready(0, 0)", x.ready(0, 0), 60);
        due("ready(1, 0)", x.ready(1, 0), 2);
        dueSame("ready back", answers(x), "jobs 2, end 20, room 1, machines 0 1 -2 -2 -2 -2 -2 -2, ends 20 19 -2");
        BatchAdmission empty = new BatchAdmission(1, 0);
        due("ready(0, 60) by deadline 0", empty.ready(0, 60), 0);
        due("end() by deadline 0", empty.end(), 60);
    }

    private static void readyOfNoMachine() {
        sentence("Promise 4", "Answers the ready time before, or -2 if machine is not from 0 to m-1.");
        for (int m = 1; m <= 3; m++) {
            BatchAdmission x = holding(m, 300, 5, 6, 7, 8);
            for (int machine = 0; machine < m; machine++) {
                due("ready(" + machine + ", " + (20 + machine) + ")", x.ready(machine, 20 + machine), 0);
            }
            String before = answers(x);
            for (int machine : NO_MACHINES_OF_3) {
                due("m " + m + ", ready(" + machine + ", 50)", x.ready(machine, 50), -2);
            }
            for (int machine = m; machine < 3; machine++) {
                due("m " + m + ", ready(" + machine + ", 50)", x.ready(machine, 50), -2);
                due("m " + m + ", ready(" + machine + ", 51)", x.ready(machine, 51), -2);
            }
            dueSame("ready of no machine", answers(x), before);
            for (int machine = 0; machine < m; machine++) {
                due("ready(" + machine + ", 0)", x.ready(machine, 0), 20 + machine);
            }
        }
    }

    // Promise 5

    private static void endsAtTheEdges() {
        sentence("Promise 5", "The least end of a plan.", "no job or 8 are held, or it is after the deadline");
        due("end() of a new object", new BatchAdmission(2, 0).end(), 0);
        // The tens make 70 on each machine at best, and the job of 2 stands behind one of them.
        due("end() of 8 held", full().end(), 72);
        due("end() of 8 equal ones", holding(3, 300, 60, 60, 60, 60, 60, 60, 60, 60).end(), 180);
        BatchAdmission late = holding(2, 5, 5, 5);
        late.ready(0, 60);
        late.ready(1, 60);
        due("end() after the deadline", late.end(), 65);
    }

    // Promise 6

    private static void machineOfNoJob() {
        sentence("Promise 6", "or -2 if no held job has the number.");
        BatchAdmission full = full();
        for (int job : NO_NUMBERS) {
            due("machineOf(" + job + ") of 8 held", full.machineOf(job), -2);
        }
        BatchAdmission empty = new BatchAdmission(1, 300);
        for (int job = 0; job < 8; job++) {
            due("machineOf(" + job + ") of none held", empty.machineOf(job), -2);
        }
        BatchAdmission gap = holding(2, 300, 5, 6, 7);
        due("withdraw(0)", gap.withdraw(0), 5);
        dueMachines(gap, -2, 0, 1, -2);
        dueOffers(gap, 61, -2, 20, 0);
        dueMachines(gap, 0, 1, 1, -2);
        BatchAdmission refused = holding(1, 5, 5);
        dueOffers(refused, 1, -1);
        due("machineOf(1) after a refused offer", refused.machineOf(1), -2);
    }

    private static void machineOfWhenLate() {
        sentence("Promise 6", "The machine that the chosen plan gives the job", "its end is after the deadline");
        BatchAdmission x = holding(3, 10, 10, 9, 8);
        x.ready(0, 60);
        dueMachines(x, 1, 1, 1);
        x.ready(1, 60);
        dueMachines(x, 2, 2, 2);
        x.ready(2, 60);
        dueMachines(x, 0, 1, 2);
    }

    // Promise 7

    private static void endOfNoMachine() {
        sentence("Promise 7", "or -2 if machine is not from 0 to m-1.");
        for (int m = 1; m <= 3; m++) {
            BatchAdmission x = holding(m, 300, 30, 30, 30);
            for (int machine : NO_MACHINES_OF_3) {
                due("m " + m + ", endOf(" + machine + ")", x.endOf(machine), -2);
            }
            for (int machine = m; machine < 3; machine++) {
                due("m " + m + ", endOf(" + machine + ")", x.endOf(machine), -2);
            }
            due("m " + m + ", endOf(0)", x.endOf(0), m == 1 ? 90 : m == 2 ? 60 : 30);
            due("m " + m + ", endOf(" + (m - 1) + ")", x.endOf(m - 1), m == 1 ? 90 : 30);
        }
    }

    private static void endOfMachineWithoutJobs() {
        sentence("Promise 7", "The end of the machine under the chosen plan", "the machine has no job or is late");
        BatchAdmission x = holding(3, 10, 4);
        dueEnds(x, 4, 0, 0);
        x.ready(1, 3);
        x.ready(2, 60);
        dueEnds(x, 4, 3, 60);
        x.ready(0, 57);
        dueEnds(x, 57, 7, 60);
        // 56+4 is no later than the idle machine 2, so the least machine is taken.
        x.ready(0, 56);
        dueEnds(x, 60, 3, 60);
    }

    // Promise 8

    private static void greatestRoom() {
        sentence("Promise 8", "The greatest length from 1 to 60 that offer would not answer -1 for");
        int[][] byDeadline = {{0, 0}, {1, 1}, {2, 2}, {59, 59}, {60, 60}, {61, 60}, {300, 60}};
        for (int[] row : byDeadline) {
            due("room() by deadline " + row[0], new BatchAdmission(3, row[0]).room(), row[1]);
        }
        due("room() behind 239 by 300", holding(1, 300, 60, 60, 60, 59).room(), 60);
        due("room() behind 240 by 300", holding(1, 300, 60, 60, 60, 60).room(), 60);
        due("room() behind 241 by 300", holding(1, 300, 60, 60, 60, 60, 1).room(), 59);
        BatchAdmission x = holding(2, 8, 3, 3, 2, 2, 2);
        due("room() where the chosen plan leaves 2", x.room(), 4);
        dueOffers(x, 5, -1, 4, 5);
        due("room() where nothing is left", x.room(), 0);
        for (int length = 1; length <= 60; length++) {
            BatchAdmission each = holding(3, 50, 40, 30, 20, 11);
            due("room() before each length", each.room(), 39);
            dueOffers(each, length, length <= 39 ? 4 : -1);
        }
    }

    private static void roomOfEightHeld() {
        sentence("Promise 8", "(if there is room for one more number or not)");
        BatchAdmission wide = holding(3, 300, 1, 1, 1, 1, 1, 1, 1, 1);
        due("room() of 8 held by 300", wide.room(), 60);
        int[][] byDeadline = {{8, 0}, {9, 1}, {10, 2}, {67, 59}, {68, 60}, {69, 60}};
        for (int[] row : byDeadline) {
            BatchAdmission x = holding(1, row[0], 1, 1, 1, 1, 1, 1, 1, 1);
            due("room() of 8 held by " + row[0], x.room(), row[1]);
            dueOffers(x, 1, -3, 60, -3);
            due("room() after offers refused", x.room(), row[1]);
        }
        BatchAdmission late = holding(2, 20, 5, 5, 5, 5, 5, 5, 5, 4);
        due("room() of 8 held, 39 of 40", late.room(), 1);
        late.ready(0, 1);
        due("room() of 8 held, 40 of 40", late.room(), 0);
        late.ready(0, 2);
        due("room() of 8 held, late", late.room(), 0);
        BatchAdmission seven = holding(3, 20, 10, 9, 8, 7, 6, 6, 5);
        due("room() of 7 held", seven.room(), 8);
        dueOffers(seven, 8, 7);
        due("room() of 8 held", seven.room(), 1);
    }

    private static void noRoom() {
        sentence("Promise 8", "0 if there is none.");
        due("room() by deadline 0", new BatchAdmission(3, 0).room(), 0);
        due("room() of all filled", holding(3, 7, 7, 7, 7).room(), 0);
        due("room() of one left", holding(3, 7, 7, 6, 7).room(), 1);
        BatchAdmission late = new BatchAdmission(2, 10);
        late.ready(0, 11);
        due("room() beside a machine after the deadline", late.room(), 0);
        late.ready(0, 10);
        due("room() beside a machine at the deadline", late.room(), 10);
        late.ready(1, 10);
        due("room() of two at the deadline", late.room(), 0);
        late.ready(0, 60);
        late.ready(1, 60);
        due("room() far after the deadline", late.room(), 0);
    }

    // Promise 9

    private static void heldFromNoneToEight() {
        sentence("Promise 9", "How many jobs are held.", "none or 8 are, or a call was refused");
        BatchAdmission x = new BatchAdmission(3, 300);
        due("jobs() of a new object", x.jobs(), 0);
        x.withdraw(0);
        due("jobs() after a withdraw of none", x.jobs(), 0);
        for (int held = 1; held <= 8; held++) {
            x.offer(61);
            x.offer(60);
            due("jobs() after " + held + " offers", x.jobs(), held);
        }
        x.offer(1);
        due("jobs() after a ninth offer", x.jobs(), 8);
        x.withdraw(8);
        due("jobs() after withdraw(8)", x.jobs(), 8);
        x.withdraw(0);
        x.withdraw(0);
        due("jobs() after withdraw(0) twice", x.jobs(), 7);
    }

    // Promise 10

    private static void refuseEverything(BatchAdmission x, int m) {
        for (int length : NO_LENGTHS) {
            due("offer(" + length + ")", x.offer(length), -2);
        }
        for (int job : NO_NUMBERS) {
            due("withdraw(" + job + ")", x.withdraw(job), -2);
            due("machineOf(" + job + ")", x.machineOf(job), -2);
        }
        for (int machine : new int[] {LOW, -1, m, m + 1, HIGH}) {
            due("ready(" + machine + ", 33)", x.ready(machine, 33), -2);
            due("endOf(" + machine + ")", x.endOf(machine), -2);
        }
    }

    private static void refusedCalls() {
        sentence("Promise 10",
                "a call that is refused (by a code below 0 that is named, or by false) changes nothing.");
        for (int m = 1; m <= 3; m++) {
            int[][] holdings = {{}, {30}, {9, 8, 7, 6}, {1, 2, 3, 4, 5, 6, 7, 8}};
            for (int[] lengths : holdings) {
                // Ready at 0 in the first round, late in the second.
                for (int time = 0; time <= 60; time += 60) {
                    BatchAdmission x = holding(m, 45, lengths);
                    BatchAdmission twin = holding(m, 45, lengths);
                    x.ready(m - 1, time);
                    twin.ready(m - 1, time);
                    refuseEverything(x, m);
                    boolean isFull = lengths.length == 8;
                    if (isFull || time == 60) {
                        due("offer(1)", x.offer(1), isFull ? -3 : -1);
                    }
                    dueSame("refused calls", lastAnswers(x), lastAnswers(twin));
                }
            }
        }
    }

    private static void questions() {
        sentence("Not promised", "Nothing is promised beyond the answers and state changes described above",
                "a call only asks");
        BatchAdmission x = holding(3, 100, 9, 8, 7, 6, 5);
        x.ready(1, 4);
        String first = answers(x);
        for (int round = 0; round < 10; round++) {
            dueSame("questions", answers(x), first);
        }
        int[] readyTimes = {0, 4, 0};
        for (int machine = 0; machine < 3; machine++) {
            due("ready(" + machine + ", 0) after questions", x.ready(machine, 0), readyTimes[machine]);
        }
        int[] lengths = {9, 8, 7, 6, 5, -2, -2, -2};
        for (int job = 0; job < 8; job++) {
            due("withdraw(" + job + ") after questions", x.withdraw(job), lengths[job]);
        }
    }

    public static void main(String[] args) {
        lastCallOfAnObject();
        machineNumbers();
        readyTimes();
        jobNumbers();
        planOfNoJobs();
        machinesWithoutJobs();
        equalPlans();
        equalPlansForTheNextJob();
        greatestEnds();
        tooFewMachines();
        tooManyMachines();
        tooEarlyDeadline();
        tooLateDeadline();
        newObjectIsEmpty();
        wrongLengths();
        eightHeld();
        afterTheDeadline();
        onlyOnePlanInTime();
        refusedOffers();
        leastFreeNumber();
        heldNoLonger();
        withdrawOfNoJob();
        tooEarlyReady();
        tooLateReady();
        readyAfterTheDeadline();
        readyOfNoMachine();
        endsAtTheEdges();
        machineOfNoJob();
        machineOfWhenLate();
        endOfNoMachine();
        endOfMachineWithoutJobs();
        greatestRoom();
        roomOfEightHeld();
        noRoom();
        heldFromNoneToEight();
        refusedCalls();
        questions();
        System.out.println(tests + " sentences, " + checks + " checks, " + wrong + " wrong");
        if (wrong != 0) {
            System.exit(1);
        }
    }
}
