/** The section 'One simulated unit', step by step. */
public final class UnitTest {
    public static void main(String[] args) {
        leastServerDeadline();
        noBudgetNoTurn();
        noInterfaceNoTurn();
        serverTiesGoLow();
        idleUnit();
        budgetBurns();
        burnsWithoutWork();
        leastJobDeadline();
        jobTiesGoLow();
        finishedTasksWait();
        fixedPriority();
        workMoves();
        lostUnit();
        timeGoesOn();
        budgetIsFilled();
        budgetLeftIsLost();
        missIsCounted();
        metDeadlineIsNoMiss();
        unfinishedJobIsDropped();
        jobsAreReleased();
        wholeUnits();
        Check.finish();
    }

    private static int[] lefts(PeriodicResource x) {
        return new int[] {x.getBudgetLeft(0), x.getBudgetLeft(1), x.getBudgetLeft(2), x.getBudgetLeft(3)};
    }

    /** Which component's budget each unit takes (-1 for an idle unit), from instant 0. */
    private static void dueTurns(PeriodicResource x, int[] servers, int... turns) {
        int[] left = new int[4];
        for (int i = 0; i < servers.length; i += 2) {
            left[i / 2] = servers[i + 1];
        }
        for (int unit = 0; unit < turns.length; unit++) {
            Check.due("left at " + unit, lefts(x), left);
            if (turns[unit] >= 0) {
                left[turns[unit]]--;
            }
            for (int i = 0; i < servers.length; i += 2) {
                if ((unit + 1) % servers[i] == 0) {
                    left[i / 2] = servers[i + 1];
                }
            }
            Check.due("run(1)", x.run(1), 1);
        }
        Check.due("left at the end", lefts(x), left);
    }

    private static void dueServers(int[] servers, int... turns) {
        PeriodicResource x = Stages.withServers(servers);
        Check.due("admit()", x.admit(), true);
        dueTurns(x, servers, turns);
    }

    /** Which task of component 3, alone on the whole processor, each unit serves. */
    private static void dueTasks(PeriodicResource x, int... order) {
        Check.due("computeInterface(3, 1)", x.computeInterface(3, 1), 1);
        Check.due("admit()", x.admit(), true);
        int count = x.getComponent(3, PeriodicResource.C_TASKS);
        int[] executed = new int[count];
        for (int unit = 0; unit < order.length; unit++) {
            if (order[unit] >= 0) {
                executed[order[unit]]++;
            }
            x.run(1);
            int[] got = new int[count];
            for (int task = 0; task < count; task++) {
                got[task] = x.getTask(3, task, PeriodicResource.T_EXECUTED);
            }
            Check.due("executed after unit " + unit, got, executed);
        }
    }

    private static final String ROOT = "among components that have an interface and left > 0, choose the one with "
            + "least server deadline (now / P + 1) * P; ties go to the lowest component index";

    private static void leastServerDeadline() {
        Check.sentence(ROOT, "least server deadline");
        // The shorter period goes first, wherever it stands.
        dueServers(new int[] {8, 2, 4, 1, 2, 1}, 2, 1, 2, 0, 2, 0, 1, 2);
        dueServers(new int[] {2, 1, 4, 1, 8, 2}, 0, 1, 0, 2, 0, 1, 0, 2);
        // At the start of its period a server's deadline is that period's end, not the start:
        // at 3, (3,1) has deadline 6 and (5,3) still 5; at 6, it has 9 and (5,3) 10.
        dueServers(new int[] {3, 1, 5, 3}, 0, 1, 1, 1, 0, 1, 0, 1, 1, 0, 1, 1, 0, 1, -1);
        dueServers(new int[] {5, 3, 3, 1}, 1, 0, 0, 0, 1, 0, 1, 0, 0, 1, 0, 0, 0, 1, -1);
    }

    private static void noBudgetNoTurn() {
        Check.sentence(ROOT, "left > 0");
        // The shortest period has the least deadline, yet no turn once its budget is spent.
        dueServers(new int[] {4, 1, 8, 4}, 0, 1, 1, 1, 0, 1, -1, -1);
        // Spent to the last unit; and a budget of 0 has no turn at all.
        PeriodicResource x = Stages.withServers(4, 3);
        x.computeInterface(1, 1);
        x.computeInterface(2, 2);
        Check.due("admit()", x.admit(), true);
        dueTurns(x, new int[] {4, 3, 1, 0, 2, 0}, 0, 0, 0, -1, 0, 0, 0, -1);
    }

    private static void noInterfaceNoTurn() {
        Check.sentence(ROOT, "have an interface");
        // Component 0 is empty and has none: the others take every turn.
        PeriodicResource x = new PeriodicResource(64);
        Stages.addTaskFor(x, 2, 2, 1);
        x.computeInterface(2, 2);
        Check.due("admit()", x.admit(), true);
        for (int unit = 0; unit < 8; unit++) {
            Check.due("left at " + unit, lefts(x), new int[] {0, 0, 1 - unit % 2, 0});
            x.run(1);
        }
        // With tasks but without interface, by force: never served.
        PeriodicResource y = new PeriodicResource(64);
        y.addTask(0, 2, 1);
        Stages.addTaskFor(y, 1, 4, 1);
        y.computeInterface(1, 4);
        if (Stages.forceAdmitted(y)) {
            y.run(64);
            Check.due("exec of 0/0", y.getTask(0, 0, PeriodicResource.T_EXECUTED), 0);
            Check.due("exec of 1/0", y.getTask(1, 0, PeriodicResource.T_EXECUTED), 8);
            Check.due("left", lefts(y), new int[] {0, 1, 0, 0});
        }
    }

    private static void serverTiesGoLow() {
        Check.sentence(ROOT, "ties");
        dueServers(new int[] {4, 1, 4, 1, 4, 1, 4, 1}, 0, 1, 2, 3, 0, 1, 2, 3);
        dueServers(new int[] {6, 2, 6, 2, 6, 2}, 0, 0, 1, 1, 2, 2, 0, 0, 1, 1, 2, 2);
        dueServers(new int[] {4, 1, 4, 1, 2, 1}, 2, 0, 1, 2, 2, 0, 1, 2);
        // Different periods that end together: at 4, (8,4) and (4,2) both have deadline 8.
        dueServers(new int[] {8, 4, 4, 2}, 1, 1, 0, 0, 0, 0, 1, 1);
        dueServers(new int[] {4, 2, 8, 4}, 0, 0, 1, 1, 0, 0, 1, 1);
    }

    private static void idleUnit() {
        Check.sentence("If there is none, the unit is idle: go to step 4.");
        // No interface anywhere: time alone goes on.
        PeriodicResource x = new PeriodicResource(64);
        x.admit();
        int[] before = Check.state(x);
        for (int now = 1; now <= 64; now++) {
            Check.due("run(1)", x.run(1), 1);
            before[1] = now;
            Check.due("state at " + now, Check.state(x), before);
        }
        // (4,1): three idle units of four, though work waits; after the last the budget is filled
        // and, at 16, the next job released, as step 4 says.
        PeriodicResource y = Stages.withTasks(64, 2, PeriodicResource.EDF, 16, 3);
        Check.due("computeInterface(2, 4)", y.computeInterface(2, 4), 1);
        y.admit();
        int[] left = {0, 0, 0, 1, 0, 0, 0, 1, 0, 0, 0, 1, 0, 0, 0, 1, 0};
        int[] rem = {2, 2, 2, 2, 1, 1, 1, 1, 0, 0, 0, 0, 0, 0, 0, 3, 2};
        for (int i = 0; i < left.length; i++) {
            y.run(1);
            Check.due("left at " + (i + 1), y.getBudgetLeft(2), left[i]);
            Check.due("rem at " + (i + 1), y.getTask(2, 0, PeriodicResource.T_REMAINING), rem[i]);
        }
    }

    private static void budgetBurns() {
        Check.sentence("The chosen component's left decreases by 1");
        dueServers(new int[] {8, 5}, 0, 0, 0, 0, 0, -1, -1, -1, 0, 0);
        dueServers(new int[] {32, 32}, 0, 0, 0, 0, 0, 0, 0, 0, 0, 0, 0, 0, 0, 0, 0, 0,
                0, 0, 0, 0, 0, 0, 0, 0, 0, 0, 0, 0, 0, 0, 0, 0, 0, 0);
    }

    private static void burnsWithoutWork() {
        Check.sentence("(also when it has no work)");
        // The task (16,5) by (4,2) is done after its fifth unit; the budget burns on.
        PeriodicResource x = Stages.withTasks(64, 1, PeriodicResource.FP, 16, 5);
        Check.due("computeInterface(1, 4)", x.computeInterface(1, 4), 2);
        x.admit();
        int[] left = {1, 0, 0, 2, 1, 0, 0, 2, 1, 0, 0, 2, 1, 0, 0, 2};
        int[] rem = {4, 3, 3, 3, 2, 1, 1, 1, 0, 0, 0, 0, 0, 0, 0, 5};
        for (int i = 0; i < left.length; i++) {
            x.run(1);
            Check.due("left at " + (i + 1), x.getBudgetLeft(1), left[i]);
            Check.due("rem at " + (i + 1), x.getTask(1, 0, PeriodicResource.T_REMAINING), rem[i]);
        }
    }

    private static final String LOCAL = "among the chosen component's tasks with rem > 0 choose, under EDF, "
            + "the least job deadline (now / T + 1) * T, ties lowest task index; under FP, the lowest task index";

    private static void leastJobDeadline() {
        Check.sentence(LOCAL, "EDF");
        dueTasks(Stages.withTasks(64, 3, PeriodicResource.EDF, 20, 4, 5, 1),
                1, 0, 0, 0, 0, 1, -1, -1, -1, -1, 1, -1);
        // At 3 the job of (3,1) that is released then has deadline 6, and (5,3) still 5; at 6
        // the next one has 9, and (5,3) 10.
        dueTasks(Stages.withTasks(64, 3, PeriodicResource.EDF, 3, 1, 5, 3),
                0, 1, 1, 1, 0, 1, 0, 1, 1, 0, 1, 1, 0, 1, -1);
        dueTasks(Stages.withTasks(64, 3, PeriodicResource.EDF, 5, 3, 3, 1),
                1, 0, 0, 0, 1, 0, 1, 0, 0, 1, 0, 0, 0, 1, -1);
    }

    private static void jobTiesGoLow() {
        Check.sentence(LOCAL, "ties");
        dueTasks(Stages.withTasks(64, 3, PeriodicResource.EDF, 8, 1, 8, 1, 8, 1, 8, 1, 8, 1, 8, 1, 8, 1, 8, 1),
                0, 1, 2, 3, 4, 5, 6, 7, 0, 1, 2, 3, 4, 5, 6, 7);
        // Different periods that end together: at 4, (8,4) and (4,2) both have deadline 8.
        dueTasks(Stages.withTasks(64, 3, PeriodicResource.EDF, 8, 4, 4, 2), 1, 1, 0, 0, 0, 0, 1, 1);
        dueTasks(Stages.withTasks(64, 3, PeriodicResource.EDF, 4, 2, 8, 4), 0, 0, 1, 1, 0, 0, 1, 1);
        dueTasks(Stages.withTasks(64, 3, PeriodicResource.EDF, 6, 2, 6, 2, 3, 1),
                2, 0, 0, 1, 1, 2, 2, 0, 0, 1, 1, 2);
    }

    private static void finishedTasksWait() {
        Check.sentence(LOCAL, "rem > 0");
        // The least deadline, or the lowest index, without work left is passed over.
        dueTasks(Stages.withTasks(64, 3, PeriodicResource.EDF, 4, 1, 8, 2), 0, 1, 1, -1, 0, -1, -1, -1);
        dueTasks(Stages.withTasks(64, 3, PeriodicResource.FP, 4, 1, 8, 2), 0, 1, 1, -1, 0, -1, -1, -1);
        dueTasks(Stages.withTasks(64, 3, PeriodicResource.FP, 1, 1), 0, 0, 0, 0);
    }

    private static void fixedPriority() {
        Check.sentence(LOCAL, "FP");
        // The long task goes first because it was added first.
        dueTasks(Stages.withTasks(64, 3, PeriodicResource.FP, 20, 4, 5, 1),
                0, 0, 0, 0, 1, 1, -1, -1, -1, -1, 1, -1);
        dueTasks(Stages.withTasks(64, 3, PeriodicResource.FP, 64, 1, 63, 1, 62, 1, 61, 1, 60, 1, 59, 1, 58, 1, 57, 1),
                0, 1, 2, 3, 4, 5, 6, 7, -1);
        // A new job of higher priority goes before the rest of a lower one.
        dueTasks(Stages.withTasks(64, 3, PeriodicResource.FP, 4, 1, 12, 5),
                0, 1, 1, 1, 0, 1, 1, -1, 0, -1, -1, -1, 0);
    }

    private static void workMoves() {
        Check.sentence("If a task is chosen, its rem decreases by 1 and its exec increases by 1");
        PeriodicResource x = Stages.withTasks(128, 0, PeriodicResource.EDF, 64, 64);
        x.computeInterface(0, 32);
        x.admit();
        for (int now = 0; now <= 128; now++) {
            Check.due("rem at " + now, x.getTask(0, 0, PeriodicResource.T_REMAINING), 64 - now % 64);
            Check.due("exec at " + now, x.getTask(0, 0, PeriodicResource.T_EXECUTED), now);
            x.run(1);
        }
        // Of one task alone, and of the chosen component alone.
        PeriodicResource y = Stages.full();
        int before = executed(y);
        y.run(1);
        Check.due("units executed by one unit", executed(y) - before, 1);
    }

    private static int executed(PeriodicResource x) {
        int sum = 0;
        for (int i = 0; i < 32; i++) {
            sum += x.getTask(i / 8, i % 8, PeriodicResource.T_EXECUTED);
        }
        return sum;
    }

    private static void lostUnit() {
        Check.sentence("otherwise the unit is lost");
        // Servers (2,1) and (4,2) take turns. Component 0 has work for five of its eight turns
        // in 16; none of the other three goes to component 1, whose work waits for its own turns.
        PeriodicResource x = Stages.withTasks(64, 0, PeriodicResource.EDF, 16, 5);
        x.addTask(1, 32, 9);
        Check.due("computeInterface(0, 2)", x.computeInterface(0, 2), 1);
        Check.due("computeInterface(1, 4)", x.computeInterface(1, 4), 2);
        Check.due("admit()", x.admit(), true);
        int[] zero = {1, 1, 2, 2, 3, 3, 4, 4, 5, 5, 5, 5, 5, 5, 5, 5, 6, 6, 7, 7};
        int[] one = {0, 1, 1, 2, 2, 3, 3, 4, 4, 5, 5, 6, 6, 7, 7, 8, 8, 9, 9, 9};
        for (int i = 0; i < zero.length; i++) {
            x.run(1);
            Check.due("exec of 0/0 after unit " + i, x.getTask(0, 0, PeriodicResource.T_EXECUTED), zero[i]);
            Check.due("exec of 1/0 after unit " + i, x.getTask(1, 0, PeriodicResource.T_EXECUTED), one[i]);
        }
    }

    private static void timeGoesOn() {
        Check.sentence("now increases by 1.");
        for (Stages.Stage stage : Stages.ALL) {
            PeriodicResource x = stage.make();
            if (x.isAdmitted()) {
                for (int now = x.getTime() + 1; now <= 100; now++) {
                    x.run(1);
                    Check.due("getTime() (" + stage.name + ")", x.getTime(), now);
                }
            }
        }
    }

    private static void budgetIsFilled() {
        Check.sentence("for each component in index order that has an interface: if now % P == 0 then left = Q");
        for (int period = 1; period <= 32; period++) {
            for (int budget = 1; budget <= period; budget++) {
                int comp = (period + budget) % 4;
                PeriodicResource x = new PeriodicResource(256);
                Stages.addTaskFor(x, comp, period, budget);
                x.computeInterface(comp, period);
                x.admit();
                for (int now = 0; now <= 256; now++) {
                    Check.due("left of (" + period + "," + budget + ") at " + now,
                            x.getBudgetLeft(comp), Math.max(0, budget - now % period));
                    x.run(1);
                }
            }
        }
    }

    private static void budgetLeftIsLost() {
        Check.sentence("(anything left is lost)");
        // Overload at the root, servers (2,2) and (3,2): served are 0, 0, 1, 0, 0, 0, and what
        // is left at a period's end is lost (of 1 at 3 and 6, of 0 at 4).
        PeriodicResource x = Stages.withServers(2, 2, 3, 2);
        if (!Stages.forceAdmitted(x)) {
            Check.skip(Stages.NO_FORCE);
            return;
        }
        int[] leftOfZero = {1, 2, 2, 2, 1, 2, 1, 2, 2, 2, 1, 2};
        for (int i = 0; i < leftOfZero.length; i++) {
            x.run(1);
            Check.due("left of 0 at " + (i + 1), x.getBudgetLeft(0), leftOfZero[i]);
            Check.due("left of 1 at " + (i + 1), x.getBudgetLeft(1), 2);
        }
    }

    private static final String RELEASE = "if now % T == 0 then first, if rem > 0, the component's misses increases "
            + "by 1 (the unfinished job is dropped), and then rem = C";

    private static void missIsCounted() {
        Check.sentence(RELEASE, "misses");
        for (int comp = 0; comp < 4; comp++) {
            // Never served: each task misses at each multiple of its period, H itself too.
            PeriodicResource x = new PeriodicResource(64);
            x.addTask(comp, 1, 1);
            x.addTask(comp, 64, 1);
            x.addTask(comp, 3, 3);
            x.addTask((comp + 1) % 4, 2, 1);
            if (!Stages.forceAdmitted(x)) {
                Check.skip(Stages.NO_FORCE);
                return;
            }
            for (int now = 0; now <= 64; now++) {
                Check.due("misses of " + comp + " at " + now, x.getMisses(comp), now + now / 64 + now / 3);
                Check.due("misses of the next at " + now, x.getMisses((comp + 1) % 4), now / 2);
                Check.due("misses of another at " + now, x.getMisses((comp + 2) % 4), 0);
                x.run(1);
            }
        }
    }

    private static void metDeadlineIsNoMiss() {
        Check.sentence(RELEASE, "if rem > 0");
        // (1,1) is served in its last unit and (64,64) to the last one: no miss.
        for (int[] task : new int[][] {{1, 1}, {2, 2}, {64, 64}, {64, 1}}) {
            PeriodicResource x = Stages.withTasks(256, 0, PeriodicResource.EDF, task);
            x.computeInterface(0, 1);
            x.admit();
            x.run(256);
            Check.due("misses of (" + task[0] + "," + task[1] + ")", x.getMisses(0), 0);
        }
        // By force, two servers (4,3), each for work 5 of every 8: component 0 gets 3 units of
        // every 4, component 1 the one that is left.
        PeriodicResource y = Stages.withServers(4, 3, 4, 3);
        if (Stages.forceAdmitted(y)) {
            y.run(64);
            Check.due("misses of 0", y.getMisses(0), 0);
            Check.due("misses of 1", y.getMisses(1), 8);
        }
    }

    private static void unfinishedJobIsDropped() {
        Check.sentence("(the unfinished job is dropped)");
        // Component 1 gets 1 unit of 4 (its own server ties and loses), for work 5 of every 8.
        PeriodicResource x = Stages.withServers(4, 3, 4, 3);
        if (!Stages.forceAdmitted(x)) {
            Check.skip(Stages.NO_FORCE);
            return;
        }
        int[] rem = {5, 5, 5, 5, 4, 4, 4, 4};
        int[] more = {0, 0, 0, 0, 1, 1, 1, 1};
        for (int now = 0; now <= 64; now++) {
            Check.due("rem of 1/0 at " + now, x.getTask(1, 0, PeriodicResource.T_REMAINING), rem[now % 8]);
            Check.due("exec of 1/0 at " + now, x.getTask(1, 0, PeriodicResource.T_EXECUTED),
                    now / 8 * 2 + more[now % 8]);
            Check.due("misses of 1 at " + now, x.getMisses(1), now / 8);
            x.run(1);
        }
    }

    private static void jobsAreReleased() {
        Check.sentence(RELEASE, "rem = C");
        PeriodicResource x = new PeriodicResource(256);
        for (int i = 0; i < 8; i++) {
            x.addTask(3, 57 + i, 1);
        }
        x.computeInterface(3, 1);
        x.admit();
        for (int now = 1; now <= 256; now++) {
            x.run(1);
            for (int i = 0; i < 8; i++) {
                if (now % (57 + i) == 0) {
                    Check.due("rem of " + i + " at " + now, x.getTask(3, i, PeriodicResource.T_REMAINING), 1);
                } else if (now % (57 + i) > 8) {
                    Check.due("rem of " + i + " at " + now, x.getTask(3, i, PeriodicResource.T_REMAINING), 0);
                }
            }
        }
    }

    private static void wholeUnits() {
        Check.sentence("One unit, from now to now+1, proceeds in this order");
        // Servers (4,3), (8,1), (5,0), (16,1). Each row after one unit: left of 0, 1, 3,
        // then rem and exec of tasks 0/0, 0/1, 1/0 and 3/0.
        int[][] rows = {
            {2, 1, 1, 1, 1, 3, 0, 1, 0, 1, 0},
            {1, 1, 1, 0, 2, 3, 0, 1, 0, 1, 0},
            {0, 1, 1, 0, 2, 2, 1, 1, 0, 1, 0},
            {3, 0, 1, 0, 2, 2, 1, 0, 1, 1, 0},
            {2, 0, 1, 0, 2, 1, 2, 0, 1, 1, 0},
            {1, 0, 1, 0, 2, 0, 3, 0, 1, 1, 0},
            {0, 0, 1, 0, 2, 0, 3, 0, 1, 1, 0}, // component 0 burns budget without work
            {3, 1, 0, 2, 2, 0, 3, 0, 1, 0, 1}, // at 8: servers 0 and 1 refilled, 0/0 released
            {2, 1, 0, 1, 3, 0, 3, 0, 1, 0, 1},
            {1, 1, 0, 0, 4, 0, 3, 0, 1, 0, 1},
            {0, 1, 0, 0, 4, 0, 3, 0, 1, 0, 1},
            {3, 0, 0, 0, 4, 3, 3, 0, 1, 0, 1}, // at 12: 0/1 released, component 1 lost a unit
            {2, 0, 0, 0, 4, 2, 4, 0, 1, 0, 1},
            {1, 0, 0, 0, 4, 1, 5, 0, 1, 0, 1},
            {0, 0, 0, 0, 4, 0, 6, 0, 1, 0, 1},
            {3, 1, 1, 2, 4, 0, 6, 0, 1, 0, 1}, // idle unit; at 16 all are refilled
        };
        PeriodicResource x = Stages.admitted();
        for (int i = 0; i < rows.length; i++) {
            Check.due("run(1)", x.run(1), 1);
            int[] got = {
                x.getBudgetLeft(0), x.getBudgetLeft(1), x.getBudgetLeft(3),
                x.getTask(0, 0, 2), x.getTask(0, 0, 3), x.getTask(0, 1, 2), x.getTask(0, 1, 3),
                x.getTask(1, 0, 2), x.getTask(1, 0, 3), x.getTask(3, 0, 2), x.getTask(3, 0, 3),
            };
            Check.due("state at " + (i + 1), got, rows[i]);
        }
    }
}
