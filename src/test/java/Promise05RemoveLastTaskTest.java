public final class Promise05RemoveLastTaskTest {
    public static void main(String[] args) {
        refusedComponent();
        refusedWhenEmpty();
        edgesAccepted();
        highestIndexGoes();
        interfaceAndAdmissionGo();
        remainingTasksStay();
        othersDoNotChange();
        Check.finish();
    }

    private static void refusedComponent() {
        Check.sentence("If either fails it answers false (refused) and nothing changes.", "comp in 0..3");
        for (int comp : Check.outside(0, 3)) {
            Stages.changesNothing("removeLastTask(" + comp + ")", x -> x.removeLastTask(comp) ? 1 : 0, 0);
        }
    }

    private static void refusedWhenEmpty() {
        Check.sentence("the component has at least one task");
        for (Stages.Stage stage : Stages.ALL) {
            for (int comp = 0; comp < 4; comp++) {
                int c = comp;
                if (stage.make().getComponent(c, PeriodicResource.C_TASKS) == 0) {
                    Stages.changesNothing(stage, "removeLastTask(" + c + "), empty",
                            x -> x.removeLastTask(c) ? 1 : 0, 0);
                }
            }
        }
        // Emptied, not empty from the start; the neighbours' tasks do not count.
        PeriodicResource x = Stages.full();
        for (int i = 0; i < 8; i++) {
            Check.due("removeLastTask(1), number " + i, x.removeLastTask(1), true);
        }
        int[] before = Check.state(x);
        Check.due("removeLastTask(1), emptied", x.removeLastTask(1), false);
        Check.due("state after a refusal", Check.state(x), before);
        // An empty component keeps its interface when the call is refused.
        PeriodicResource y = Stages.running();
        Check.due("removeLastTask(2)", y.removeLastTask(2), false);
        Check.due("period of 2", y.getComponent(2, PeriodicResource.C_PERIOD), 5);
        Check.due("isAdmitted()", y.isAdmitted(), true);
        Check.due("getTime()", y.getTime(), 9);
    }

    private static void edgesAccepted() {
        Check.sentence("`removeLastTask(comp)` tests in order: comp in 0..3; the component has at least one task.");
        for (int comp = 0; comp < 4; comp++) {
            PeriodicResource x = new PeriodicResource(64);
            x.addTask(comp, 5, 5);
            Check.due("removeLastTask(" + comp + ") of one", x.removeLastTask(comp), true);
            Check.due("removeLastTask(" + comp + ") of none", x.removeLastTask(comp), false);
        }
    }

    private static void highestIndexGoes() {
        Check.sentence("it removes the component's task of highest index");
        for (int comp = 0; comp < 4; comp++) {
            PeriodicResource x = Stages.full();
            for (int last = 7; last >= 0; last--) {
                Check.due("period of " + last, x.getTask(comp, last, PeriodicResource.T_PERIOD), 64 - last);
                Check.due("removeLastTask(" + comp + ")", x.removeLastTask(comp), true);
                Check.due("count", x.getComponent(comp, PeriodicResource.C_TASKS), last);
                Check.due("period of " + last, x.getTask(comp, last, PeriodicResource.T_PERIOD), -1);
                Check.due("requestBound of " + last, x.requestBound(comp, last, 1), -1);
                // The removed task asks for nothing any more; each left asks for 1 of 100000 / T.
                int demand = 0;
                for (int i = 0; i < last; i++) {
                    demand += 100000 / (64 - i);
                }
                Check.due("demandBound(" + comp + ", 100000)", x.demandBound(comp, 100000), demand);
            }
        }
    }

    private static void interfaceAndAdmissionGo() {
        Check.sentence("removes its interface, sets admitted = false, RESETs, and answers true.", "removeLastTask");
        for (Stages.Stage stage : Stages.ALL) {
            for (int comp = 0; comp < 4; comp++) {
                PeriodicResource x = stage.make();
                if (x.getComponent(comp, PeriodicResource.C_TASKS) > 0) {
                    String call = "removeLastTask(" + comp + ") (" + stage.name + ")";
                    Check.due(call, x.removeLastTask(comp), true);
                    Check.due(call + ": period", x.getComponent(comp, PeriodicResource.C_PERIOD), -1);
                    Check.due(call + ": budget", x.getComponent(comp, PeriodicResource.C_BUDGET), -1);
                    Check.due(call + ": left", x.getBudgetLeft(comp), 0);
                    Check.dueTakenBack(call, x);
                }
            }
        }
    }

    private static void remainingTasksStay() {
        Check.sentence("The remaining tasks keep their indices and parameters; the policy does not change");
        for (int comp = 0; comp < 4; comp++) {
            PeriodicResource x = Stages.full();
            for (int last = 7; last >= 0; last--) {
                int[] want = Check.settings(x, comp);
                x.removeLastTask(comp);
                want[PeriodicResource.C_TASKS] = last;
                Check.dropInterface(want);
                want[4 + 2 * last] = -1;
                want[5 + 2 * last] = -1;
                Check.due("settings of " + comp, Check.settings(x, comp), want);
            }
        }
    }

    private static void othersDoNotChange() {
        Check.sentence("other components' policies, tasks and interfaces do not change.", "removeLastTask");
        for (Stages.Stage stage : Stages.ALL) {
            for (int comp = 0; comp < 4; comp++) {
                PeriodicResource x = stage.make();
                int[][] want = Check.allSettings(x);
                for (int i = 0; i < 9; i++) {
                    x.removeLastTask(comp);
                    want[comp] = Check.settings(x, comp);
                    Check.dueSettings("removeLastTask(" + comp + ") (" + stage.name + ")", x, want);
                }
            }
        }
    }
}
