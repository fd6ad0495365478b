public final class Promise07AdmitTest {
    public static void main(String[] args) {
        emptyIsAdmitted();
        tasksNeedAnInterface();
        bandwidth();
        admitResetsAndKeepsSettings();
        isAdmittedReads();
        Check.finish();
    }

    private static void emptyIsAdmitted() {
        PeriodicResource x = new PeriodicResource(64);
        Check.due("isAdmitted()", x.isAdmitted(), false);
        Check.due("admit()", x.admit(), true);
        Check.due("isAdmitted()", x.isAdmitted(), true);
        Check.due("admit() again", x.admit(), true);
    }

    private static void tasksNeedAnInterface() {
        for (int comp = 0; comp < 4; comp++) {
            PeriodicResource x = Check.admittedObject();
            x.addTask(comp, 64, 1);
            Check.due("admit() without interface " + comp, x.admit(), false);
            Check.due("isAdmitted()", x.isAdmitted(), false);
            Check.due("run(1)", x.run(1), -1);
        }
        PeriodicResource y = Check.admittedObject();
        y.setPolicy(2, PeriodicResource.FP);
        Check.due("admit() with no tasks and no interface in 2", y.admit(), true);
        PeriodicResource z = new PeriodicResource(64);
        z.addTask(0, 2, 2);
        z.addTask(0, 2, 2);
        z.computeInterface(0, 1);
        Check.due("admit() after NO_BUDGET", z.admit(), false);
    }

    private static PeriodicResource withServers(int[] pairs) {
        PeriodicResource x = new PeriodicResource(64);
        for (int i = 0; i < pairs.length; i += 2) {
            Check.addTaskFor(x, i / 2, pairs[i], pairs[i + 1]);
        }
        return x;
    }

    private static void bandwidth() {
        Check.due("1/1", withServers(new int[] {1, 1}).admit(), true);
        Check.due("1/1 + 1/32", withServers(new int[] {1, 1, 32, 1}).admit(), false);
        Check.due("1/2 + 1/2", withServers(new int[] {2, 1, 2, 1}).admit(), true);
        Check.due("1/3 + 1/3 + 1/3", withServers(new int[] {3, 1, 3, 1, 3, 1}).admit(), true);
        Check.due("1/3 + 1/3 + 1/3 + 1/32",
                withServers(new int[] {3, 1, 3, 1, 3, 1, 32, 1}).admit(), false);
        Check.due("1/4 + 1/4 + 1/4 + 1/4",
                withServers(new int[] {4, 1, 4, 1, 4, 1, 4, 1}).admit(), true);
        // One exactly, though a sum of doubles comes out above it.
        Check.due("1/4 + 7/24 + 7/24 + 1/6",
                withServers(new int[] {4, 1, 24, 7, 24, 7, 6, 1}).admit(), true);
        // One and one 719200th.
        Check.due("3/32 + 13/31 + 6/29 + 7/25",
                withServers(new int[] {32, 3, 31, 13, 29, 6, 25, 7}).admit(), false);
        Check.due("3/32 + 13/31 + 6/29 + 6/25",
                withServers(new int[] {32, 3, 31, 13, 29, 6, 25, 6}).admit(), true);
        Check.due("31/32 + 30/31 + 29/30 + 28/29",
                withServers(new int[] {32, 31, 31, 30, 30, 29, 29, 28}).admit(), false);
        Check.due("four times 32/32",
                withServers(new int[] {32, 32, 32, 32, 32, 32, 32, 32}).admit(), false);
    }

    private static void admitResetsAndKeepsSettings() {
        PeriodicResource x = Check.runningObject();
        int[][] before = new int[4][];
        for (int c = 0; c < 4; c++) {
            before[c] = Check.settings(x, c);
        }
        Check.due("admit() amid a run", x.admit(), true);
        Check.dueReset("admit()", x);
        for (int c = 0; c < 4; c++) {
            Check.due("settings of " + c, Check.settings(x, c), before[c]);
        }
        // The answer false RESETs too, and takes admission back.
        PeriodicResource y = withServers(new int[] {2, 1, 2, 1, 32, 1});
        Check.forceAdmitted(y);
        y.run(5);
        Check.due("admit() of too much", y.admit(), false);
        Check.due("isAdmitted()", y.isAdmitted(), false);
        Check.dueReset("admit() of too much", y);
    }

    private static void isAdmittedReads() {
        PeriodicResource x = Check.runningObject();
        int[] before = Check.state(x);
        Check.due("isAdmitted()", x.isAdmitted(), true);
        Check.due("state after isAdmitted()", Check.state(x), before);
        x.run(1000);
        Check.due("isAdmitted() at the horizon", x.isAdmitted(), true);
    }
}
