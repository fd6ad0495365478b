public final class Promise04AddTaskTest {
    public static void main(String[] args) {
        refusedComponent();
        refusedPeriod();
        refusedWcet();
        refusedWhenFull();
        refusedTogether();
        edgesAccepted();
        answersTheFormerCount();
        interfaceAndAdmissionGo();
        existingTasksStay();
        othersDoNotChange();
        Check.finish();
    }

    private static String name(int comp, int period, int wcet) {
        return "addTask(" + comp + ", " + period + ", " + wcet + ")";
    }

    private static void refuse(int comp, int period, int wcet) {
        Stages.changesNothing(name(comp, period, wcet),
                x -> x.addTask(comp, period, wcet), PeriodicResource.REFUSED);
    }

    private static void refusedComponent() {
        Check.sentence("If any test fails it answers REFUSED and nothing changes.", "comp in 0..3");
        for (int comp : Check.outside(0, 3)) {
            refuse(comp, 8, 2);
            refuse(comp, 64, 1);
        }
    }

    private static void refusedPeriod() {
        Check.sentence("If any test fails it answers REFUSED and nothing changes.", "period in 1..64");
        for (int comp = 0; comp < 4; comp++) {
            for (int period : Check.outside(1, 64)) {
                refuse(comp, period, 1);
            }
        }
        for (int period : new int[] {65, 66, 128, 256, Check.MAX}) {
            refuse(1, period, period);
            refuse(1, period, 64);
        }
        refuse(1, 0, 0);
        refuse(1, -1, -1);
    }

    private static void refusedWcet() {
        Check.sentence("If any test fails it answers REFUSED and nothing changes.", "wcet in 1..period");
        for (int comp = 0; comp < 4; comp++) {
            for (int period : new int[] {1, 2, 63, 64}) {
                for (int wcet : Check.outside(1, period)) {
                    refuse(comp, period, wcet);
                }
            }
        }
        for (int period = 1; period <= 64; period++) {
            PeriodicResource x = new PeriodicResource(64);
            Check.due(name(0, period, 0), x.addTask(0, period, 0), -1);
            Check.due(name(0, period, period + 1), x.addTask(0, period, period + 1), -1);
            Check.due(name(0, period, 1), x.addTask(0, period, 1), 0);
            Check.due(name(0, period, period), x.addTask(0, period, period), 1);
        }
    }

    private static void refusedWhenFull() {
        Check.sentence("the component has fewer than 8 tasks");
        for (Stages.Stage stage : Stages.ALL) {
            if (stage.name.equals("full")) {
                for (int comp = 0; comp < 4; comp++) {
                    int c = comp;
                    Stages.changesNothing(stage, name(c, 64, 1), x -> x.addTask(c, 64, 1), -1);
                    Stages.changesNothing(stage, name(c, 1, 1), x -> x.addTask(c, 1, 1), -1);
                    Stages.changesNothing(stage, name(c, 64, 64), x -> x.addTask(c, 64, 64), -1);
                }
            }
        }
        // Full, then one less, then full again.
        PeriodicResource x = Stages.full();
        Check.due("addTask(2, 9, 3)", x.addTask(2, 9, 3), -1);
        x.removeLastTask(2);
        Check.due("addTask(2, 9, 3) after removeLastTask(2)", x.addTask(2, 9, 3), 7);
        Check.due("addTask(2, 9, 3) again", x.addTask(2, 9, 3), -1);
        Check.due("count", x.getComponent(2, PeriodicResource.C_TASKS), 8);
        // A full component does not fill another.
        PeriodicResource y = new PeriodicResource(64);
        for (int i = 0; i < 9; i++) {
            Check.due("addTask(1, 10, 1), number " + i, y.addTask(1, 10, 1), i < 8 ? i : -1);
        }
        Check.due("addTask(0, 10, 1)", y.addTask(0, 10, 1), 0);
        Check.due("addTask(2, 10, 1)", y.addTask(2, 10, 1), 0);
    }

    private static void refusedTogether() {
        Check.sentence("`addTask(comp, period, wcet)` tests in order: comp in 0..3; period in 1..64; "
                + "wcet in 1..period; the component has fewer than 8 tasks.");
        for (int comp : Check.outside(0, 3)) {
            refuse(comp, 0, 0);
            refuse(comp, 65, 66);
            refuse(comp, comp, comp);
        }
        for (int comp = 0; comp < 4; comp++) {
            refuse(comp, 0, 1);
            refuse(comp, 65, 0);
            refuse(comp, Check.MAX, Check.MIN);
            refuse(comp, Check.MIN, Check.MAX);
        }
    }

    private static void edgesAccepted() {
        Check.sentence("it appends the task (T = period, C = wcet) as index n, where n is the former task count");
        int[] periodsAndWcets = {1, 1, 2, 1, 2, 2, 63, 63, 64, 1, 64, 63, 64, 64, 8, 3};
        for (int comp = 0; comp < 4; comp++) {
            PeriodicResource x = new PeriodicResource(64);
            for (int i = 0; i < 8; i++) {
                int period = periodsAndWcets[2 * i];
                int wcet = periodsAndWcets[2 * i + 1];
                Check.due(name(comp, period, wcet), x.addTask(comp, period, wcet), i);
                Check.due("count", x.getComponent(comp, PeriodicResource.C_TASKS), i + 1);
                Check.due("period of " + i, x.getTask(comp, i, PeriodicResource.T_PERIOD), period);
                Check.due("wcet of " + i, x.getTask(comp, i, PeriodicResource.T_WCET), wcet);
                Check.due("rem of " + i, x.getTask(comp, i, PeriodicResource.T_REMAINING), wcet);
                Check.due("exec of " + i, x.getTask(comp, i, PeriodicResource.T_EXECUTED), 0);
                Check.due("no task " + (i + 1), x.getTask(comp, i + 1, PeriodicResource.T_PERIOD), -1);
            }
        }
    }

    private static void answersTheFormerCount() {
        Check.sentence("answers n (so 0..7)");
        for (int comp = 0; comp < 4; comp++) {
            PeriodicResource x = new PeriodicResource(64);
            for (int n = 0; n < 8; n++) {
                Check.due("addTask number " + n, x.addTask(comp, 10 + n, 1 + n), n);
            }
            // After removals the index is the count then, not the number of calls.
            x.removeLastTask(comp);
            x.removeLastTask(comp);
            Check.due("addTask after two removals", x.addTask(comp, 10, 1), 6);
            for (int n = 0; n < 7; n++) {
                x.removeLastTask(comp);
            }
            Check.due("addTask after all are removed", x.addTask(comp, 10, 1), 0);
        }
    }

    private static void interfaceAndAdmissionGo() {
        Check.sentence("removes that component's interface, sets admitted = false, RESETs, and answers n");
        for (Stages.Stage stage : Stages.ALL) {
            for (int comp = 0; comp < 4; comp++) {
                PeriodicResource x = stage.make();
                int n = x.getComponent(comp, PeriodicResource.C_TASKS);
                if (n < 8) {
                    String call = name(comp, 40, 7) + " (" + stage.name + ")";
                    Check.due(call, x.addTask(comp, 40, 7), n);
                    Check.due(call + ": period", x.getComponent(comp, PeriodicResource.C_PERIOD), -1);
                    Check.due(call + ": budget", x.getComponent(comp, PeriodicResource.C_BUDGET), -1);
                    Check.due(call + ": left", x.getBudgetLeft(comp), 0);
                    Check.dueTakenBack(call, x);
                }
            }
        }
    }

    private static void existingTasksStay() {
        Check.sentence("Existing tasks keep their indices, periods and wcets; the policy does not change");
        for (int i = 0; i < 8; i++) {
            int comp = i % 4;
            PeriodicResource x = new PeriodicResource(64);
            x.setPolicy(comp, i / 4);
            for (int n = 0; n < 8; n++) {
                int[] want = Check.settings(x, comp);
                x.addTask(comp, 64 - n, 8 - n);
                want[PeriodicResource.C_TASKS] = n + 1;
                want[4 + 2 * n] = 64 - n;
                want[5 + 2 * n] = 8 - n;
                Check.due("settings of " + comp + " after task " + n, Check.settings(x, comp), want);
            }
        }
    }

    private static void othersDoNotChange() {
        Check.sentence("other components' policies, tasks and interfaces do not change.", "addTask");
        for (Stages.Stage stage : Stages.ALL) {
            for (int comp = 0; comp < 4; comp++) {
                PeriodicResource x = stage.make();
                int[][] want = Check.allSettings(x);
                for (int i = 0; i < 9; i++) {
                    x.addTask(comp, 30 + i, 2 + i);
                    want[comp] = Check.settings(x, comp);
                    Check.dueSettings(name(comp, 30 + i, 2 + i) + " (" + stage.name + ")", x, want);
                }
            }
        }
    }
}
