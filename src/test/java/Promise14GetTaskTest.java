public final class Promise14GetTaskTest {
    public static void main(String[] args) {
        pure();
        refusedComponent();
        refusedTask();
        refusedField();
        testsInOrder();
        periodAndWcet();
        remainingAndExecuted();
        Check.finish();
    }

    private static String name(int comp, int task, int field) {
        return "getTask(" + comp + ", " + task + ", " + field + ")";
    }

    private static void refuse(int comp, int task, int field) {
        Stages.changesNothing(name(comp, task, field),
                x -> x.getTask(comp, task, field), PeriodicResource.REFUSED);
    }

    private static void pure() {
        Check.sentence("`getTask(comp, task, field)` is pure.");
        int[] places = {0, 0, 0, 1, 1, 0, 3, 0};
        int[][] due = {{8, 2, 1, 3}, {12, 3, 0, 3}, {32, 1, 0, 1}, {64, 1, 0, 1}};
        for (Stages.Stage stage : Stages.ALL) {
            if (stage.name.equals("running")) {
                for (int i = 0; i < 16; i++) {
                    int comp = places[i / 4 * 2];
                    int task = places[i / 4 * 2 + 1];
                    int field = i % 4;
                    Stages.changesNothing(stage, name(comp, task, field),
                            x -> x.getTask(comp, task, field), due[i / 4][field]);
                }
            }
        }
    }

    private static void refusedComponent() {
        Check.sentence("If any fails it answers REFUSED.", "comp in 0..3");
        for (int comp : Check.outside(0, 3)) {
            for (int field = 0; field < 4; field++) {
                refuse(comp, 0, field);
            }
            Check.due(name(comp, 7, 0), Stages.full().getTask(comp, 7, 0), -1);
        }
    }

    private static void refusedTask() {
        Check.sentence("task in 0..n-1, where n is that component's task count", "getTask");
        for (int n = 0; n <= 8; n++) {
            for (int comp = 0; comp < 4; comp++) {
                for (int field = 0; field < 4; field++) {
                    dueTasks(n, comp, field);
                }
            }
        }
    }

    // The other components are full, so that a look into them would be answered.
    private static void dueTasks(int n, int comp, int field) {
        PeriodicResource x = Stages.full();
        for (int i = n; i < 8; i++) {
            x.removeLastTask(comp);
        }
        for (int task : Check.outside(0, n - 1)) {
            Check.due(name(comp, task, field) + " of " + n, x.getTask(comp, task, field), -1);
        }
        for (int task = n; task <= 40; task++) {
            Check.due(name(comp, task, field) + " of " + n, x.getTask(comp, task, field), -1);
        }
        for (int task = 0; task < n; task++) {
            Check.due(name(comp, task, field) + " of " + n + " is refused",
                    x.getTask(comp, task, field) == -1, false);
        }
    }

    private static void refusedField() {
        Check.sentence("If any fails it answers REFUSED.", "field in 0..3");
        for (int field : Check.outside(0, 3)) {
            for (int comp = 0; comp < 4; comp++) {
                refuse(comp, 0, field);
                Check.due(name(comp, 7, field), Stages.full().getTask(comp, 7, field), -1);
            }
        }
    }

    private static void testsInOrder() {
        Check.sentence("It tests in order: comp in 0..3; task in 0..n-1, where n is that component's task count; "
                + "field in 0..3.");
        for (int comp : Check.outside(0, 3)) {
            refuse(comp, -1, -1);
            refuse(comp, 8, 4);
            refuse(comp, comp, comp);
        }
        for (int comp = 0; comp < 4; comp++) {
            refuse(comp, -1, -1);
            refuse(comp, 8, 4);
        }
        // The ends of all three ranges are accepted.
        PeriodicResource x = Stages.full();
        Check.due(name(0, 0, 0), x.getTask(0, 0, 0), 64);
        Check.due(name(0, 7, 0), x.getTask(0, 7, 0), 57);
        Check.due(name(3, 0, 0), x.getTask(3, 0, 0), 64);
        Check.due(name(3, 7, 1), x.getTask(3, 7, 1), 1);
        Check.due(name(0, 0, 3), x.getTask(0, 0, 3), 0);
        Check.due(name(0, 7, 3), x.getTask(0, 7, 3), 1);
    }

    private static void periodAndWcet() {
        Check.sentence("T_PERIOD the task's T; T_WCET its C");
        PeriodicResource x = new PeriodicResource(64);
        for (int i = 0; i < 32; i++) {
            x.addTask(i % 4, 64 - i, 32 - i);
        }
        for (int i = 0; i < 32; i++) {
            Check.due(name(i % 4, i / 4, 0), x.getTask(i % 4, i / 4, PeriodicResource.T_PERIOD), 64 - i);
            Check.due(name(i % 4, i / 4, 1), x.getTask(i % 4, i / 4, PeriodicResource.T_WCET), 32 - i);
        }
    }

    private static void remainingAndExecuted() {
        Check.sentence("T_REMAINING its rem; T_EXECUTED its exec");
        // Alone on the whole processor: the job's work first, then waiting for the next one.
        PeriodicResource x = Stages.withTasks(100, 3, PeriodicResource.FP, 10, 4);
        x.computeInterface(3, 1);
        x.admit();
        for (int now = 0; now <= 100; now++) {
            int inJob = Math.min(now % 10, 4);
            Check.due("rem at " + now, x.getTask(3, 0, PeriodicResource.T_REMAINING), 4 - inJob);
            Check.due("exec at " + now, x.getTask(3, 0, PeriodicResource.T_EXECUTED), now / 10 * 4 + inJob);
            x.run(1);
        }
    }
}
