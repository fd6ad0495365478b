public final class Promise08RunTest {
    public static void main(String[] args) {
        refusals();
        countsAndHorizon();
        unitByUnit();
        splitRunsAgree();
        rootTiesAndDeadlines();
        localFixedPriority();
        localDeadlines();
        lostBudget();
        fullComponents(PeriodicResource.EDF);
        fullComponents(PeriodicResource.FP);
        Check.finish();
    }

    private static void refusals() {
        PeriodicResource x = Check.runningObject();
        int[] before = Check.state(x);
        for (int steps : new int[] {Check.MIN, -1, 0}) {
            Check.due("run(" + steps + ")", x.run(steps), -1);
        }
        Check.due("state after refusals", Check.state(x), before);
        x.run(1000);
        Check.due("run(0) at the horizon", x.run(0), -1);
        x.setPolicy(2, PeriodicResource.EDF);
        before = Check.state(x);
        for (int steps : new int[] {Check.MIN, 0, 1, 1000, Check.MAX}) {
            Check.due("run(" + steps + ") when not admitted", x.run(steps), -1);
        }
        Check.due("state after refusals", Check.state(x), before);
    }

    private static void countsAndHorizon() {
        PeriodicResource x = Check.admittedObject();
        Check.due("run(1)", x.run(1), 1);
        Check.due("run(60)", x.run(60), 60);
        Check.due("run(38)", x.run(38), 38);
        Check.due("getTime()", x.getTime(), 99);
        Check.due("run(2)", x.run(2), 1);
        Check.due("getTime()", x.getTime(), 100);
        int[] before = Check.state(x);
        Check.due("run(1) at the horizon", x.run(1), 0);
        Check.due("run(MAX) at the horizon", x.run(Check.MAX), 0);
        Check.due("state at the horizon", Check.state(x), before);
        PeriodicResource y = Check.admittedObject();
        Check.due("run(MAX)", y.run(Check.MAX), 100);
        Check.due("state after run(MAX)", Check.state(y), before);
        PeriodicResource z = Check.admittedObject();
        Check.due("run(100)", z.run(100), 100);
        Check.due("state after run(100)", Check.state(z), before);
    }

    private static void unitByUnit() {
        // Servers (4,3), (8,1), (5,0), (16,1). Each row after one unit: left of 0, 1, 3,
        // then rem and exec of tasks 0/0, 0/1, 1/0 and 3/0.
        int[][] rows = {
            {2, 1, 1, 1, 1, 3, 0, 1, 0, 1, 0},
            {1, 1, 1, 0, 2, 3, 0, 1, 0, 1, 0},
            {0, 1, 1, 0, 2, 2, 1, 1, 0, 1, 0},
            {3, 0, 1, 0, 2, 2, 1, 0, 1, 1, 0},
            {2, 0, 1, 0, 2, 1, 2, 0, 1, 1, 0},
            {1, 0, 1, 0, 2, 0, 3, 0, 1, 1, 0},
            {0, 0, 1, 0, 2, 0, 3, 0, 1, 1, 0}, // component 0 burns budget without work
            {3, 1, 0, 2, 2, 0, 3, 0, 1, 0, 1}, // at 8: servers 0 and 1 refilled, 0/0 released
            {2, 1, 0, 1, 3, 0, 3, 0, 1, 0, 1},
            {1, 1, 0, 0, 4, 0, 3, 0, 1, 0, 1},
            {0, 1, 0, 0, 4, 0, 3, 0, 1, 0, 1},
            {3, 0, 0, 0, 4, 3, 3, 0, 1, 0, 1}, // at 12: 0/1 released, component 1 lost a unit
            {2, 0, 0, 0, 4, 2, 4, 0, 1, 0, 1},
            {1, 0, 0, 0, 4, 1, 5, 0, 1, 0, 1},
            {0, 0, 0, 0, 4, 0, 6, 0, 1, 0, 1},
            {3, 1, 1, 2, 4, 0, 6, 0, 1, 0, 1}, // idle unit; at 16 all are refilled
        };
        PeriodicResource x = Check.admittedObject();
        for (int i = 0; i < rows.length; i++) {
            Check.due("run(1)", x.run(1), 1);
            Check.due("time", x.getTime(), i + 1);
            int[] got = {
                x.getBudgetLeft(0), x.getBudgetLeft(1), x.getBudgetLeft(3),
                x.getTask(0, 0, 2), x.getTask(0, 0, 3), x.getTask(0, 1, 2), x.getTask(0, 1, 3),
                x.getTask(1, 0, 2), x.getTask(1, 0, 3), x.getTask(3, 0, 2), x.getTask(3, 0, 3),
            };
            Check.due("state at " + (i + 1), got, rows[i]);
            Check.due("left of 2", x.getBudgetLeft(2), 0);
            Check.due("isAdmitted()", x.isAdmitted(), true);
        }
    }

    private static void splitRunsAgree() {
        PeriodicResource whole = Check.admittedObject();
        PeriodicResource parts = Check.admittedObject();
        int[] before = Check.settings(whole, 0);
        whole.run(77);
        for (int i = 0; i < 11; i++) {
            parts.run(7);
        }
        Check.due("state after run(77)", Check.state(whole), Check.state(parts));
        Check.due("settings after run(77)", Check.settings(whole, 0), before);
    }

    private static void rootTiesAndDeadlines() {
        // Servers (4,1), (4,1), (2,1): order of service 2, 0, 1 (ties go low), 2, and so on.
        PeriodicResource x = new PeriodicResource(64);
        Check.addTaskFor(x, 0, 4, 1);
        Check.addTaskFor(x, 1, 4, 1);
        Check.addTaskFor(x, 2, 2, 1);
        Check.due("admit()", x.admit(), true);
        int[] order = {2, 0, 1, 2, 2, 0, 1, 2};
        int[] refilledAfter = {-1, 2, -1, -2, -1, 2, -1, -2};
        int[] left = {1, 1, 1};
        for (int i = 0; i < order.length; i++) {
            left[order[i]]--;
            if (refilledAfter[i] == 2) {
                left[2] = 1;
            }
            if (refilledAfter[i] == -2) {
                left = new int[] {1, 1, 1};
            }
            x.run(1);
            int[] got = {x.getBudgetLeft(0), x.getBudgetLeft(1), x.getBudgetLeft(2)};
            Check.due("left after unit " + i, got, left);
        }
    }

    private static void dueOrder(PeriodicResource x, int comp, int[] order) {
        Check.due("computeInterface(" + comp + ", 1)", x.computeInterface(comp, 1), 1);
        Check.due("admit()", x.admit(), true);
        int[] executed = new int[8];
        for (int i = 0; i < order.length; i++) {
            if (order[i] >= 0) {
                executed[order[i]]++;
            }
            x.run(1);
            for (int task = 0; task < x.getComponent(comp, PeriodicResource.C_TASKS); task++) {
                Check.due("exec of " + task + " after unit " + i,
                        x.getTask(comp, task, PeriodicResource.T_EXECUTED), executed[task]);
            }
        }
    }

    private static void localFixedPriority() {
        PeriodicResource x = new PeriodicResource(64);
        x.setPolicy(3, PeriodicResource.FP);
        x.addTask(3, 20, 4);
        x.addTask(3, 5, 1);
        dueOrder(x, 3, new int[] {0, 0, 0, 0, 1, 1, -1, -1, -1, -1, 1, -1});
    }

    private static void localDeadlines() {
        PeriodicResource x = new PeriodicResource(64);
        x.addTask(3, 20, 4);
        x.addTask(3, 5, 1);
        dueOrder(x, 3, new int[] {1, 0, 0, 0, 0, 1, -1, -1, -1, -1, 1, -1});
        // Two tasks of equal deadline, and at 3 a third with the same one: the lowest goes first.
        PeriodicResource y = new PeriodicResource(64);
        y.addTask(0, 6, 2);
        y.addTask(0, 6, 2);
        y.addTask(0, 3, 1);
        dueOrder(y, 0, new int[] {2, 0, 0, 1, 1, 2, 2, 0, 0, 1, 1, 2});
    }

    private static void lostBudget() {
        // Overload at the root, servers (2,2) and (3,2): served are 0, 0, 1, 0, 0, 0, and what
        // is left at a period's end is lost (of 1 at 3 and 6, of 0 at 4).
        PeriodicResource x = new PeriodicResource(64);
        Check.addTaskFor(x, 0, 2, 2);
        Check.addTaskFor(x, 1, 3, 2);
        Check.forceAdmitted(x);
        int[] leftOfZero = {1, 2, 2, 2, 1, 2, 1, 2, 2, 2, 1, 2};
        for (int i = 0; i < leftOfZero.length; i++) {
            x.run(1);
            Check.due("left of 0 at " + (i + 1), x.getBudgetLeft(0), leftOfZero[i]);
            Check.due("left of 1 at " + (i + 1), x.getBudgetLeft(1), 2);
        }
    }

    private static void fullComponents(int policy) {
        // Four times eight tasks (64,1), servers (4,1): the components take turns, each serves
        // its tasks in index order, and from 32 to 64 every unit is lost.
        PeriodicResource x = new PeriodicResource(256);
        for (int i = 0; i < 32; i++) {
            x.addTask(i / 8, 64, 1);
        }
        for (int comp = 0; comp < 4; comp++) {
            x.setPolicy(comp, policy);
            Check.due("computeInterface(" + comp + ", 4)", x.computeInterface(comp, 4), 1);
        }
        Check.due("admit()", x.admit(), true);
        int[] executed = new int[32];
        for (int unit = 0; unit < 256; unit++) {
            int turn = unit % 64;
            if (turn < 32) {
                executed[turn % 4 * 8 + turn / 4]++;
            }
            Check.due("run(1)", x.run(1), 1);
            int[] got = new int[32];
            for (int i = 0; i < 32; i++) {
                got[i] = x.getTask(i / 8, i % 8, PeriodicResource.T_EXECUTED);
            }
            Check.due("executed after unit " + unit, got, executed);
        }
    }
}
