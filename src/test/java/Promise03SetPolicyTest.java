public final class Promise03SetPolicyTest {
    public static void main(String[] args) {
        refusals();
        accepted(0, PeriodicResource.FP);
        accepted(0, PeriodicResource.EDF);
        accepted(1, PeriodicResource.EDF);
        accepted(1, PeriodicResource.FP);
        accepted(2, PeriodicResource.EDF);
        accepted(3, PeriodicResource.FP);
        Check.finish();
    }

    private static void refusals() {
        PeriodicResource x = Check.runningObject();
        int[] before = Check.state(x);
        for (int comp : new int[] {Check.MIN, -1, 4, 5, Check.MAX}) {
            Check.due("setPolicy(" + comp + ", 0)", x.setPolicy(comp, 0), false);
            Check.due("setPolicy(" + comp + ", 1)", x.setPolicy(comp, 1), false);
            Check.due("setPolicy(" + comp + ", 2)", x.setPolicy(comp, 2), false);
        }
        for (int policy : new int[] {Check.MIN, -1, 2, 3, Check.MAX}) {
            for (int comp = 0; comp < 4; comp++) {
                Check.due("setPolicy(" + comp + ", " + policy + ")", x.setPolicy(comp, policy), false);
            }
        }
        Check.due("state after refusals", Check.state(x), before);
    }

    private static void accepted(int comp, int policy) {
        String call = "setPolicy(" + comp + ", " + policy + ")";
        PeriodicResource x = Check.runningObject();
        int[][] before = new int[4][];
        for (int c = 0; c < 4; c++) {
            before[c] = Check.settings(x, c);
        }
        Check.due(call, x.setPolicy(comp, policy), true);
        before[comp][PeriodicResource.C_POLICY] = policy;
        before[comp][PeriodicResource.C_PERIOD] = -1;
        before[comp][PeriodicResource.C_BUDGET] = -1;
        for (int c = 0; c < 4; c++) {
            Check.due(call + ": settings of " + c, Check.settings(x, c), before[c]);
        }
        Check.due(call + ": isAdmitted()", x.isAdmitted(), false);
        Check.dueReset(call, x);
    }
}
