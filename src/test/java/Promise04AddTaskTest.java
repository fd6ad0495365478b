public final class Promise04AddTaskTest {
    public static void main(String[] args) {
        refusals();
        refusedWhenFull();
        edgesOfPeriodAndWcet();
        for (int comp = 0; comp < 4; comp++) {
            accepted(comp);
            upToEight(comp);
        }
        Check.finish();
    }

    private static void refuse(PeriodicResource x, int comp, int period, int wcet) {
        Check.due("addTask(" + comp + ", " + period + ", " + wcet + ")",
                x.addTask(comp, period, wcet), PeriodicResource.REFUSED);
    }

    private static void refusals() {
        PeriodicResource x = Check.runningObject();
        int[] before = Check.state(x);
        for (int comp : new int[] {Check.MIN, -1, 4, 5, Check.MAX}) {
            refuse(x, comp, 8, 2);
            refuse(x, comp, 0, 0);
        }
        for (int comp = 0; comp < 4; comp++) {
            for (int period : new int[] {Check.MIN, -1, 0, 65, 66, Check.MAX}) {
                refuse(x, comp, period, 1);
                refuse(x, comp, period, period);
            }
            for (int period : new int[] {1, 2, 63, 64}) {
                for (int wcet : new int[] {Check.MIN, -1, 0, period + 1, 65, Check.MAX}) {
                    refuse(x, comp, period, wcet);
                }
            }
        }
        Check.due("state after refusals", Check.state(x), before);
    }

    private static void refusedWhenFull() {
        PeriodicResource x = new PeriodicResource(64);
        for (int i = 0; i < 8; i++) {
            x.addTask(2, 64, 1);
        }
        Check.due("computeInterface(2, 1)", x.computeInterface(2, 1), 1);
        Check.due("admit()", x.admit(), true);
        x.run(3);
        int[] before = Check.state(x);
        refuse(x, 2, 64, 1);
        Check.due("state after a refusal of the ninth", Check.state(x), before);
    }

    private static void edgesOfPeriodAndWcet() {
        PeriodicResource x = new PeriodicResource(64);
        Check.due("addTask(0, 1, 1)", x.addTask(0, 1, 1), 0);
        Check.due("addTask(0, 64, 1)", x.addTask(0, 64, 1), 1);
        Check.due("addTask(0, 64, 64)", x.addTask(0, 64, 64), 2);
        Check.due("addTask(0, 2, 2)", x.addTask(0, 2, 2), 3);
    }

    private static void accepted(int comp) {
        String call = "addTask(" + comp + ", 40, 7)";
        PeriodicResource x = Check.runningObject();
        int[][] before = new int[4][];
        for (int c = 0; c < 4; c++) {
            before[c] = Check.settings(x, c);
        }
        int count = x.getComponent(comp, PeriodicResource.C_TASKS);
        Check.due(call, x.addTask(comp, 40, 7), count);
        before[comp][PeriodicResource.C_TASKS] = count + 1;
        before[comp][PeriodicResource.C_PERIOD] = -1;
        before[comp][PeriodicResource.C_BUDGET] = -1;
        before[comp][4 + 2 * count] = 40;
        before[comp][5 + 2 * count] = 7;
        for (int c = 0; c < 4; c++) {
            Check.due(call + ": settings of " + c, Check.settings(x, c), before[c]);
        }
        Check.due(call + ": isAdmitted()", x.isAdmitted(), false);
        Check.dueReset(call, x);
    }

    private static void upToEight(int comp) {
        PeriodicResource x = new PeriodicResource(64);
        for (int i = 0; i < 8; i++) {
            Check.due("addTask number " + i, x.addTask(comp, 10 + i, 1 + i), i);
        }
        refuse(x, comp, 10, 1);
        Check.due("task count", x.getComponent(comp, PeriodicResource.C_TASKS), 8);
        for (int i = 0; i < 8; i++) {
            Check.due("period of " + i, x.getTask(comp, i, PeriodicResource.T_PERIOD), 10 + i);
            Check.due("wcet of " + i, x.getTask(comp, i, PeriodicResource.T_WCET), 1 + i);
        }
        for (int other = 0; other < 4; other++) {
            if (other != comp) {
                Check.due("count of " + other, x.getComponent(other, PeriodicResource.C_TASKS), 0);
            }
        }
    }
}
