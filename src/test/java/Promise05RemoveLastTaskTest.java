public final class Promise05RemoveLastTaskTest {
    public static void main(String[] args) {
        refusals();
        accepted(0);
        accepted(1);
        accepted(3);
        fromEightToNone();
        newTaskInAnOldPlace();
        Check.finish();
    }

    private static void refusals() {
        PeriodicResource x = Check.runningObject();
        int[] before = Check.state(x);
        for (int comp : new int[] {Check.MIN, -1, 4, 5, Check.MAX}) {
            Check.due("removeLastTask(" + comp + ")", x.removeLastTask(comp), false);
        }
        Check.due("removeLastTask(2), which has none", x.removeLastTask(2), false);
        Check.due("state after refusals", Check.state(x), before);
    }

    private static void accepted(int comp) {
        String call = "removeLastTask(" + comp + ")";
        PeriodicResource x = Check.runningObject();
        int[][] before = new int[4][];
        for (int c = 0; c < 4; c++) {
            before[c] = Check.settings(x, c);
        }
        int last = x.getComponent(comp, PeriodicResource.C_TASKS) - 1;
        Check.due(call, x.removeLastTask(comp), true);
        before[comp][PeriodicResource.C_TASKS] = last;
        before[comp][PeriodicResource.C_PERIOD] = -1;
        before[comp][PeriodicResource.C_BUDGET] = -1;
        before[comp][4 + 2 * last] = PeriodicResource.REFUSED;
        before[comp][5 + 2 * last] = PeriodicResource.REFUSED;
        for (int c = 0; c < 4; c++) {
            Check.due(call + ": settings of " + c, Check.settings(x, c), before[c]);
        }
        Check.due(call + ": isAdmitted()", x.isAdmitted(), false);
        Check.dueReset(call, x);
    }

    private static void fromEightToNone() {
        PeriodicResource x = new PeriodicResource(64);
        for (int i = 0; i < 8; i++) {
            x.addTask(3, 20 + i, 2 + i);
        }
        for (int count = 7; count >= 0; count--) {
            Check.due("removeLastTask(3)", x.removeLastTask(3), true);
            Check.due("count", x.getComponent(3, PeriodicResource.C_TASKS), count);
            for (int i = 0; i < count; i++) {
                Check.due("period of " + i, x.getTask(3, i, PeriodicResource.T_PERIOD), 20 + i);
                Check.due("wcet of " + i, x.getTask(3, i, PeriodicResource.T_WCET), 2 + i);
            }
        }
        Check.due("removeLastTask(3), emptied", x.removeLastTask(3), false);
    }

    private static void newTaskInAnOldPlace() {
        PeriodicResource x = Check.runningObject();
        x.removeLastTask(0);
        Check.due("addTask(0, 30, 5)", x.addTask(0, 30, 5), 1);
        Check.due("period", x.getTask(0, 1, PeriodicResource.T_PERIOD), 30);
        Check.due("wcet", x.getTask(0, 1, PeriodicResource.T_WCET), 5);
        Check.dueReset("a task in an old place", x);
    }
}
