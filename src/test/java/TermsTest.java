/** The section 'Terms', read through the calls that rest on it. */
public final class TermsTest {
    public static void main(String[] args) {
        taskRanges();
        jobsAreReleasedEveryPeriod();
        deadlineIsTheNextRelease();
        taskList();
        atMostOneInterface();
        interfaceRanges();
        divisionsRoundDown();
        noBudgetNoSupply();
        noSupplyUpToTheGap();
        supplyAfterTheGap();
        blackout();
        demand();
        request();
        requestOfZero();
        coversByDeadlines();
        coversByDeadlinesUpToTheHorizon();
        coversEveryTask();
        coversAtSomeInstant();
        coversUpToTheTaskPeriod();
        emptyIsCovered();
        noWrapAround();
        Check.finish();
    }

    private static void taskRanges() {
        Check.sentence("A task has period T in 1..64 and worst-case execution time C in 1..T");
        PeriodicResource x = new PeriodicResource(64);
        for (int period = -1; period <= 66; period++) {
            for (int wcet = -1; wcet <= 66; wcet++) {
                boolean lawful = period >= 1 && period <= 64 && wcet >= 1 && wcet <= period;
                Check.due("addTask(3, " + period + ", " + wcet + ")",
                        x.addTask(3, period, wcet), lawful ? 0 : -1);
                Check.due("removeLastTask(3)", x.removeLastTask(3), lawful);
            }
        }
    }

    private static PeriodicResource alone(int horizon, int policy, int... tasks) {
        PeriodicResource x = Stages.withTasks(horizon, 1, policy, tasks);
        Check.due("computeInterface(1, 1)", x.computeInterface(1, 1), 1);
        Check.due("admit()", x.admit(), true);
        return x;
    }

    private static void jobsAreReleasedEveryPeriod() {
        Check.sentence("its jobs are released at 0, T, 2T, ...");
        for (int period : new int[] {1, 2, 3, 7, 32, 63, 64}) {
            for (int wcet : new int[] {1, (period + 1) / 2, period}) {
                PeriodicResource x = alone(256, PeriodicResource.EDF, period, wcet);
                for (int now = 0; now <= 256; now++) {
                    int done = Math.min(now % period, wcet);
                    Check.due("rem of (" + period + "," + wcet + ") at " + now,
                            x.getTask(1, 0, PeriodicResource.T_REMAINING), wcet - done);
                    Check.due("exec of (" + period + "," + wcet + ") at " + now,
                            x.getTask(1, 0, PeriodicResource.T_EXECUTED), now / period * wcet + done);
                    x.run(1);
                }
            }
        }
    }

    private static void deadlineIsTheNextRelease() {
        Check.sentence("its deadline equals its period; its jobs are released at 0, T, 2T, ... "
                + "and the job released at k*T has absolute deadline (k+1)*T");
        // (10,3) and (4,2): deadlines 10 against 4, 8, then 12; 20 against 12, 16, 20.
        PeriodicResource x = alone(64, PeriodicResource.EDF, 10, 3, 4, 2);
        int[] order = {1, 1, 0, 0, 1, 1, 0, -1, 1, 1, 0, 0, 1, 1, 0, -1, 1, 1, -1, -1, 1, 1, 0, 0};
        dueOrder(x, order);
        // A job that is done exactly at its deadline has met it.
        PeriodicResource y = alone(64, PeriodicResource.EDF, 5, 5);
        y.run(64);
        Check.due("getMisses(1)", y.getMisses(1), 0);
        Check.due("exec", y.getTask(1, 0, PeriodicResource.T_EXECUTED), 64);
    }

    private static void dueOrder(PeriodicResource x, int[] order) {
        int[] executed = new int[8];
        for (int unit = 0; unit < order.length; unit++) {
            if (order[unit] >= 0) {
                executed[order[unit]]++;
            }
            x.run(1);
            for (int task = 0; task < x.getComponent(1, PeriodicResource.C_TASKS); task++) {
                Check.due("exec of " + task + " after unit " + unit,
                        x.getTask(1, task, PeriodicResource.T_EXECUTED), executed[task]);
            }
        }
    }

    private static void taskList() {
        Check.sentence("a task list (task indices 0..n-1 in the order added, n <= 8)");
        int[] periods = {9, 64, 1, 30, 2, 8, 63, 9, 5};
        for (int comp = 0; comp < 4; comp++) {
            PeriodicResource x = new PeriodicResource(64);
            for (int n = 0; n < 9; n++) {
                x.addTask(comp, periods[n], 1);
            }
            for (int task = 0; task < 9; task++) {
                Check.due("period of " + task, x.getTask(comp, task, PeriodicResource.T_PERIOD),
                        task < 8 ? periods[task] : -1);
            }
        }
    }

    private static void atMostOneInterface() {
        Check.sentence("at most one interface (P,Q)");
        // The budget of a second interface takes the first one's place, in the sum and in the run.
        PeriodicResource x = new PeriodicResource(64);
        Stages.addTaskFor(x, 0, 4, 3);
        x.computeInterface(0, 1);
        Check.due("budget", x.getComponent(0, PeriodicResource.C_BUDGET), 1);
        x.computeInterface(0, 4);
        Check.due("budget", x.getComponent(0, PeriodicResource.C_BUDGET), 3);
        Check.due("admit()", x.admit(), true);
        for (int now = 0; now < 16; now++) {
            Check.due("left at " + now, x.getBudgetLeft(0), 3 - now % 4);
            x.run(1);
        }
    }

    private static void interfaceRanges() {
        Check.sentence("with P in 1..32 and Q in 0..P");
        PeriodicResource x = new PeriodicResource(64);
        for (int period = -1; period <= 34; period++) {
            boolean lawful = period >= 1 && period <= 32;
            Check.due("computeInterface(0, " + period + ")", x.computeInterface(0, period), lawful ? 0 : -1);
            for (int budget = -1; budget <= 35; budget++) {
                boolean both = lawful && budget >= 0 && budget <= period;
                Check.due("supplyBound(" + period + ", " + budget + ", 0)",
                        x.supplyBound(period, budget, 0), both ? 0 : -1);
            }
        }
    }

    private static void divisionsRoundDown() {
        Check.sentence("All divisions below are integer divisions of non-negative numbers (floor).");
        // 64 / 3 = 21 for the demand, (64 + 2) / 3 = 22 for the request; (64 - 5) / 7 = 8 rest 3.
        PeriodicResource x = Stages.withTasks(64, 0, PeriodicResource.EDF, 3, 1);
        Check.due("demandBound(0, 64)", x.demandBound(0, 64), 21);
        Check.due("demandBound(0, 65)", x.demandBound(0, 65), 21);
        Check.due("demandBound(0, 66)", x.demandBound(0, 66), 22);
        Check.due("requestBound(0, 0, 64)", x.requestBound(0, 0, 64), 22);
        Check.due("requestBound(0, 0, 66)", x.requestBound(0, 0, 66), 22);
        Check.due("requestBound(0, 0, 67)", x.requestBound(0, 0, 67), 23);
        Check.due("supplyBound(7, 2, 64)", x.supplyBound(7, 2, 64), 16);
    }

    private static void dueSupply(int period, int budget, int t, int want) {
        Check.due("supplyBound(" + period + ", " + budget + ", " + t + ")",
                new PeriodicResource(64).supplyBound(period, budget, t), want);
    }

    private static void noBudgetNoSupply() {
        Check.sentence("if Q == 0 or t <= P-Q it is 0", "Q == 0");
        for (int period = 1; period <= 32; period++) {
            for (int t : new int[] {0, 1, period - 1, period, period + 1, 2 * period, 2 * period + 1, 99999, 100000}) {
                dueSupply(period, 0, t, 0);
            }
        }
    }

    private static void noSupplyUpToTheGap() {
        Check.sentence("if Q == 0 or t <= P-Q it is 0", "t <= P-Q");
        for (int period = 1; period <= 32; period++) {
            for (int budget = 1; budget <= period; budget++) {
                for (int t = 0; t <= period - budget; t++) {
                    dueSupply(period, budget, t, 0);
                }
            }
            // No gap at all: the first unit is there at once.
            dueSupply(period, period, 0, 0);
            dueSupply(period, period, 1, 1);
        }
    }

    private static void supplyAfterTheGap() {
        Check.sentence("otherwise, with B = P-Q, u = t-B, k = u / P, r = u % P: sbf = k*Q + max(0, r-B).");
        for (int period = 1; period <= 32; period++) {
            for (int budget = 1; budget <= period; budget++) {
                int gap = period - budget;
                for (int k = 0; k <= 5; k++) {
                    // r from 0 to the gap brings nothing; each one above it brings a unit.
                    for (int r = 0; r < period; r++) {
                        int t = gap + k * period + r;
                        if (t > gap) {
                            dueSupply(period, budget, t, k * budget + (r > gap ? r - gap : 0));
                        }
                    }
                }
            }
        }
        dueSupply(32, 31, 100000, 3124 * 31 + 30);
        dueSupply(31, 16, 100000, 3225 * 16);
    }

    private static void blackout() {
        Check.sentence("The supply has a blackout of 2(P-Q) followed by Q units every P.");
        for (int period = 1; period <= 32; period++) {
            for (int budget = 1; budget <= period; budget++) {
                int end = 2 * (period - budget);
                dueSupply(period, budget, end, 0);
                dueSupply(period, budget, end + 1, 1);
                dueSupply(period, budget, end + budget, budget);
                dueSupply(period, budget, end + period, budget);
                dueSupply(period, budget, end + period + 1, budget + 1);
                dueSupply(period, budget, end + 7 * period, 7 * budget);
            }
        }
    }

    private static void demand() {
        Check.sentence("dbf(c,t) = sum over all tasks of component c of (t / T) * C.");
        for (int period : new int[] {1, 2, 3, 31, 63, 64}) {
            int wcet = (period + 1) / 2;
            PeriodicResource x = Stages.withTasks(64, 2, PeriodicResource.EDF, period, wcet);
            for (int jobs = 1; jobs <= 100000 / 64; jobs += 41) {
                Check.due("just before", x.demandBound(2, jobs * period - 1), (jobs - 1) * wcet);
                Check.due("at the deadline", x.demandBound(2, jobs * period), jobs * wcet);
                Check.due("just after", x.demandBound(2, jobs * period + 1),
                        period == 1 ? (jobs + 1) * wcet : jobs * wcet);
            }
        }
        // All tasks, the first and the eighth too, and of this component alone.
        PeriodicResource y = new PeriodicResource(64);
        for (int task = 0; task < 8; task++) {
            y.addTask(1, 10, 1 + task);
            y.addTask(2, 7, 2);
            Check.due("demandBound(1, 20)", y.demandBound(1, 20), (task + 1) * (task + 2));
        }
    }

    private static void request() {
        Check.sentence("rbf(c,i,t) = sum over tasks j = 0..i of component c of ceil(t / T_j) * C_j");
        for (int period : new int[] {1, 2, 3, 31, 63, 64}) {
            int wcet = (period + 1) / 2;
            PeriodicResource x = Stages.withTasks(64, 2, PeriodicResource.FP, period, wcet);
            for (int jobs = 1; jobs <= 100000 / 64; jobs += 41) {
                Check.due("at the release's eve", x.requestBound(2, 0, jobs * period), jobs * wcet);
                Check.due("just after", x.requestBound(2, 0, jobs * period + 1), (jobs + 1) * wcet);
                Check.due("just after the one before", x.requestBound(2, 0, (jobs - 1) * period + 1), jobs * wcet);
            }
        }
        // From task 0 up to the task itself, and no further.
        PeriodicResource y = new PeriodicResource(64);
        for (int task = 0; task < 8; task++) {
            y.addTask(1, 10, 1 + task);
            y.addTask(2, 7, 2);
        }
        for (int task = 0; task < 8; task++) {
            Check.due("requestBound(1, " + task + ", 11)", y.requestBound(1, task, 11), (task + 1) * (task + 2));
        }
    }

    private static void requestOfZero() {
        Check.sentence("ceil(x / T) = (x + T - 1) / T (so 0 for x = 0)");
        for (int period = 1; period <= 64; period++) {
            PeriodicResource x = Stages.withTasks(64, 0, PeriodicResource.FP, period, period);
            Check.due("T = " + period + ", x = 0", x.requestBound(0, 0, 0), 0);
            Check.due("T = " + period + ", x = 1", x.requestBound(0, 0, 1), period);
            Check.due("T = " + period + ", x = T", x.requestBound(0, 0, period), period);
            Check.due("T = " + period + ", x = T + 1", x.requestBound(0, 0, period + 1), 2 * period);
        }
    }

    private static void dueLeast(int want, int horizon, int policy, int server, int... tasks) {
        PeriodicResource x = Stages.withTasks(horizon, 0, policy, tasks);
        Check.due("least budget of " + server, x.computeInterface(0, server), want);
    }

    private static void coversByDeadlines() {
        Check.sentence("policy EDF: dbf(c,t) <= sbf(P,Q,t) for every t in 1..H", "every t");
        // Demand equal to supply is covered: at every t, at 1, and where it is 0.
        dueLeast(1, 64, PeriodicResource.EDF, 1, 1, 1);
        dueLeast(32, 64, PeriodicResource.EDF, 32, 1, 1);
        // (4,1) of a server of 2: by 4, budget 1 brings 1; of 3: by 4, budget 1 brings none.
        dueLeast(1, 64, PeriodicResource.EDF, 2, 4, 1);
        dueLeast(2, 64, PeriodicResource.EDF, 3, 4, 1);
        // The early deadline decides, not the late one: (2,1) waits out no gap.
        dueLeast(2, 64, PeriodicResource.EDF, 2, 2, 1, 64, 1);
        // A late deadline decides, not the first one: 3 + 30 by 34 of a server of 2.
        dueLeast(1, 64, PeriodicResource.EDF, 2, 34, 16);
        dueLeast(2, 64, PeriodicResource.EDF, 2, 34, 17);
    }

    private static void coversByDeadlinesUpToTheHorizon() {
        Check.sentence("policy EDF: dbf(c,t) <= sbf(P,Q,t) for every t in 1..H", "H");
        // Tasks whose demand first goes beyond t itself at the instant named.
        int[][] rows = {{64, 2, 1, 64, 33}, {65, 5, 2, 13, 8}, {100, 3, 1, 50, 34}, {255, 5, 1, 51, 41},
            {256, 5, 3, 64, 26}, {258, 6, 1, 43, 36}, {260, 5, 3, 52, 21}};
        for (int[] row : rows) {
            for (int horizon = 64; horizon <= 256; horizon++) {
                dueLeast(row[0] <= horizon ? -2 : 1, horizon, PeriodicResource.EDF, 1,
                        row[1], row[2], row[3], row[4]);
            }
        }
    }

    private static void coversEveryTask() {
        Check.sentence("policy FP: for every task i of c there is some t in 1..T_i with rbf(c,i,t) <= sbf(P,Q,t)",
                "every task");
        // The task that needs the whole processor stands first, amid the others, or last.
        for (int place = 0; place < 8; place++) {
            int[] tasks = new int[16];
            for (int i = 0; i < 8; i++) {
                tasks[2 * i] = i == place ? 8 : 64;
                tasks[2 * i + 1] = 1;
            }
            // At the place i, 8 units must have brought i + 1: by a server of 4 with budget 1
            // (8 brings 1), 2 (8 brings 2), 3 (8 brings 5) or 4.
            int[] budgets = {1, 2, 3, 3, 3, 4, 4, 4};
            dueLeast(budgets[place], 64, PeriodicResource.FP, 4, tasks);
        }
        // One unit too much in the last task, though the others are covered.
        dueLeast(1, 64, PeriodicResource.FP, 1, 2, 1, 4, 1, 8, 2);
        dueLeast(-2, 64, PeriodicResource.FP, 1, 2, 1, 4, 1, 8, 3);
        dueLeast(-2, 64, PeriodicResource.FP, 1, 2, 2, 64, 1);
        dueLeast(-2, 64, PeriodicResource.FP, 1, 3, 1, 2, 2);
    }

    private static void coversAtSomeInstant() {
        Check.sentence("policy FP: for every task i of c there is some t in 1..T_i with rbf(c,i,t) <= sbf(P,Q,t)",
                "some t");
        // The second task is covered at t = 4 alone, and at t = 8 alone, not at its deadline.
        dueLeast(1, 64, PeriodicResource.FP, 1, 4, 3, 5, 1);
        dueLeast(1, 64, PeriodicResource.FP, 1, 4, 2, 9, 4);
        dueLeast(-2, 64, PeriodicResource.FP, 1, 4, 2, 9, 5);
        // Covered at t = 1, the only instant there is.
        dueLeast(1, 64, PeriodicResource.FP, 1, 1, 1);
        dueLeast(32, 64, PeriodicResource.FP, 32, 1, 1);
        // t = 0, where nothing is asked yet, does not count.
        dueLeast(-2, 64, PeriodicResource.FP, 1, 1, 1, 1, 1);
        dueLeast(1, 64, PeriodicResource.FP, 32, 64, 1);
    }

    private static void coversUpToTheTaskPeriod() {
        Check.sentence("policy FP: for every task i of c there is some t in 1..T_i with rbf(c,i,t) <= sbf(P,Q,t)",
                "T_i");
        // Covered at the deadline alone.
        dueLeast(1, 64, PeriodicResource.FP, 1, 3, 3);
        dueLeast(1, 64, PeriodicResource.FP, 1, 64, 64);
        dueLeast(10, 64, PeriodicResource.FP, 32, 64, 10);
        // The first unit of (P,1) is sure by 2P - 1, and not by 2P - 2.
        for (int server = 2; server <= 32; server++) {
            dueLeast(1, 64, PeriodicResource.FP, server, 2 * server - 1, 1);
            dueLeast(2, 64, PeriodicResource.FP, server, 2 * server - 2, 1);
        }
        // A longer horizon grants no time beyond the deadline.
        dueLeast(-2, 256, PeriodicResource.FP, 1, 3, 1, 4, 3);
        dueLeast(2, 256, PeriodicResource.FP, 2, 2, 1);
    }

    private static void emptyIsCovered() {
        Check.sentence("A component with no tasks is covered by every (P,Q).");
        for (int policy = 0; policy < 2; policy++) {
            for (int period = 1; period <= 32; period++) {
                dueLeast(0, 64, policy, period);
                dueLeast(0, 256, policy, period);
            }
        }
    }

    private static void noWrapAround() {
        Check.sentence("For all accepted arguments every quantity above stays far inside the int range; "
                + "no wrap-around of int arithmetic occurs.");
        // The greatest answers that there are.
        PeriodicResource x = new PeriodicResource(256);
        for (int i = 0; i < 8; i++) {
            x.addTask(3, 1, 1);
            x.addTask(0, 64, 64);
        }
        Check.due("demandBound(3, MAX_T)", x.demandBound(3, 100000), 800000);
        Check.due("demandBound(0, MAX_T)", x.demandBound(0, 100000), 8 * 1562 * 64);
        for (int i = 0; i < 8; i++) {
            Check.due("requestBound(3, " + i + ", MAX_T)", x.requestBound(3, i, 100000), (i + 1) * 100000);
            Check.due("requestBound(0, " + i + ", MAX_T)", x.requestBound(0, i, 100000), (i + 1) * 1563 * 64);
        }
        Check.due("supplyBound(32, 32, MAX_T)", x.supplyBound(32, 32, 100000), 100000);
        Check.due("supplyBound(32, 31, MAX_T)", x.supplyBound(32, 31, 100000), 3124 * 31 + 30);
        // Arguments whose sum or product would wrap around are refused, not computed.
        Check.due("requestBound(0, 0, MAX)", x.requestBound(0, 0, Check.MAX), -1);
        Check.due("requestBound(1 << 29, 0, 1)", x.requestBound(1 << 29, 0, 1), -1);
        Check.due("supplyBound(1, MIN, 1)", x.supplyBound(1, Check.MIN, 1), -1);
        Check.due("supplyBound(32, 0, MIN)", x.supplyBound(32, 0, Check.MIN), -1);
    }
}
