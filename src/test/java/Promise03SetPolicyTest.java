public final class Promise03SetPolicyTest {
    public static void main(String[] args) {
        refusedComponent();
        refusedPolicy();
        refusedBoth();
        accepted();
        alsoWhenUnchanged();
        tasksAreKept();
        othersDoNotChange();
        Check.finish();
    }

    private static void refuse(int comp, int policy) {
        Stages.changesNothing("setPolicy(" + comp + ", " + policy + ")",
                x -> x.setPolicy(comp, policy) ? 1 : 0, 0);
    }

    private static void refusedComponent() {
        Check.sentence("If either fails it answers false (refused) and nothing changes.", "comp in 0..3");
        for (int comp : Check.outside(0, 3)) {
            refuse(comp, PeriodicResource.EDF);
            refuse(comp, PeriodicResource.FP);
        }
    }

    private static void refusedPolicy() {
        Check.sentence("If either fails it answers false (refused) and nothing changes.", "policy is EDF or FP");
        for (int comp = 0; comp < 4; comp++) {
            for (int policy : Check.outside(PeriodicResource.EDF, PeriodicResource.FP)) {
                refuse(comp, policy);
            }
        }
    }

    private static void refusedBoth() {
        Check.sentence("`setPolicy(comp, policy)` tests in order: comp in 0..3, then policy is EDF or FP.");
        for (int comp : Check.outside(0, 3)) {
            refuse(comp, -1);
            refuse(comp, 2);
            refuse(comp, comp);
        }
        for (int comp = 0; comp < 4; comp++) {
            for (int policy = 0; policy < 2; policy++) {
                Check.due("setPolicy(" + comp + ", " + policy + ")",
                        new PeriodicResource(64).setPolicy(comp, policy), true);
            }
        }
    }

    private static void accepted() {
        Check.sentence("Otherwise it sets the component's policy (also when unchanged), removes that "
                + "component's interface, sets admitted = false, RESETs, and answers true.");
        for (Stages.Stage stage : Stages.ALL) {
            for (int comp = 0; comp < 4; comp++) {
                PeriodicResource x = stage.make();
                dueAccepted(stage, x, comp, 1 - x.getComponent(comp, PeriodicResource.C_POLICY));
            }
        }
    }

    private static void dueAccepted(Stages.Stage stage, PeriodicResource x, int comp, int policy) {
        String call = "setPolicy(" + comp + ", " + policy + ") (" + stage.name + ")";
        Check.due(call, x.setPolicy(comp, policy), true);
        Check.due(call + ": policy", x.getComponent(comp, PeriodicResource.C_POLICY), policy);
        Check.due(call + ": period", x.getComponent(comp, PeriodicResource.C_PERIOD), -1);
        Check.due(call + ": budget", x.getComponent(comp, PeriodicResource.C_BUDGET), -1);
        Check.due(call + ": left", x.getBudgetLeft(comp), 0);
        Check.dueTakenBack(call, x);
    }

    private static void alsoWhenUnchanged() {
        Check.sentence("(also when unchanged)");
        for (Stages.Stage stage : Stages.ALL) {
            for (int comp = 0; comp < 4; comp++) {
                PeriodicResource x = stage.make();
                dueAccepted(stage, x, comp, x.getComponent(comp, PeriodicResource.C_POLICY));
            }
        }
        // Neither a policy nor an interface changes here, yet the call is accepted.
        PeriodicResource y = Stages.changed();
        Check.due("admit()", y.admit(), true);
        y.run(5);
        Check.due("setPolicy(2, FP)", y.setPolicy(2, PeriodicResource.FP), true);
        Check.dueTakenBack("setPolicy(2, FP)", y);
    }

    private static void tasksAreKept() {
        Check.sentence("The component's tasks are kept");
        for (Stages.Stage stage : Stages.ALL) {
            for (int i = 0; i < 8; i++) {
                int comp = i % 4;
                PeriodicResource x = stage.make();
                int[] want = Check.settings(x, comp);
                x.setPolicy(comp, i / 4);
                want[PeriodicResource.C_POLICY] = i / 4;
                Check.dropInterface(want);
                Check.due("settings of " + comp + " (" + stage.name + ")", Check.settings(x, comp), want);
            }
        }
    }

    private static void othersDoNotChange() {
        Check.sentence("other components' policies, tasks and interfaces do not change "
                + "(their simulation state is reset by RESET).");
        for (Stages.Stage stage : Stages.ALL) {
            for (int i = 0; i < 8; i++) {
                int comp = i % 4;
                PeriodicResource x = stage.make();
                int[][] want = Check.allSettings(x);
                x.setPolicy(comp, i / 4);
                want[comp] = Check.settings(x, comp);
                String call = "setPolicy(" + comp + ", " + i / 4 + ") (" + stage.name + ")";
                Check.dueSettings(call, x, want);
                Check.dueReset(call, x);
            }
        }
    }
}
