public final class Promise13GetComponentTest {
    public static void main(String[] args) {
        pure();
        refusedComponent();
        refusedField();
        testsInOrder();
        policy();
        taskCount();
        periodOrNone();
        budgetOrNone();
        Check.finish();
    }

    private static String name(int comp, int field) {
        return "getComponent(" + comp + ", " + field + ")";
    }

    private static void refuse(int comp, int field) {
        Stages.changesNothing(name(comp, field), x -> x.getComponent(comp, field), PeriodicResource.REFUSED);
    }

    private static void pure() {
        Check.sentence("`getComponent(comp, field)` is pure.");
        int[][] due = {{0, 2, 4, 3}, {1, 1, 8, 1}, {0, 0, 5, 0}, {0, 1, 16, 1}};
        for (Stages.Stage stage : Stages.ALL) {
            if (stage.name.equals("admitted") || stage.name.equals("running")
                    || stage.name.equals("at the horizon")) {
                for (int i = 0; i < 16; i++) {
                    int comp = i / 4;
                    int field = i % 4;
                    Stages.changesNothing(stage, name(comp, field),
                            x -> x.getComponent(comp, field), due[comp][field]);
                }
            }
        }
    }

    private static void refusedComponent() {
        Check.sentence("If either fails it answers REFUSED.", "comp in 0..3");
        for (int comp : Check.outside(0, 3)) {
            for (int field = 0; field < 4; field++) {
                refuse(comp, field);
            }
        }
    }

    private static void refusedField() {
        Check.sentence("If either fails it answers REFUSED.", "field in 0..3");
        for (int comp = 0; comp < 4; comp++) {
            for (int field : Check.outside(0, 3)) {
                refuse(comp, field);
            }
        }
    }

    private static void testsInOrder() {
        Check.sentence("It tests in order: comp in 0..3; field in 0..3.");
        for (int comp : Check.outside(0, 3)) {
            refuse(comp, -1);
            refuse(comp, 4);
            refuse(comp, comp);
        }
        // The ends of both ranges are accepted.
        PeriodicResource x = Stages.full();
        Check.due(name(0, 0), x.getComponent(0, 0), 0);
        Check.due(name(0, 3), x.getComponent(0, 3), 1);
        Check.due(name(3, 0), x.getComponent(3, 0), 1);
        Check.due(name(3, 3), x.getComponent(3, 3), 1);
    }

    private static void policy() {
        Check.sentence("C_POLICY the policy (EDF or FP)");
        for (int comp = 0; comp < 4; comp++) {
            PeriodicResource x = new PeriodicResource(64);
            for (int policy : new int[] {0, 1, 1, 0, 0}) {
                x.setPolicy(comp, policy);
                for (int other = 0; other < 4; other++) {
                    Check.due("policy of " + other, x.getComponent(other, PeriodicResource.C_POLICY),
                            other == comp ? policy : 0);
                }
            }
        }
    }

    private static void taskCount() {
        Check.sentence("C_TASKS the task count (0..8)");
        for (int comp = 0; comp < 4; comp++) {
            PeriodicResource x = new PeriodicResource(64);
            for (int count = 0; count <= 9; count++) {
                for (int other = 0; other < 4; other++) {
                    Check.due("count of " + other, x.getComponent(other, PeriodicResource.C_TASKS),
                            other == comp ? Math.min(count, 8) : 0);
                }
                x.addTask(comp, 10, 1);
            }
            for (int count = 8; count >= -1; count--) {
                Check.due("count of " + comp, x.getComponent(comp, PeriodicResource.C_TASKS), Math.max(count, 0));
                x.removeLastTask(comp);
            }
        }
    }

    private static void periodOrNone() {
        Check.sentence("C_PERIOD the interface P, or -1 if there is no interface");
        for (int comp = 0; comp < 4; comp++) {
            PeriodicResource x = new PeriodicResource(64);
            Check.due("new", x.getComponent(comp, PeriodicResource.C_PERIOD), -1);
            for (int period = 1; period <= 32; period++) {
                x.computeInterface(comp, period);
                Check.due("period", x.getComponent(comp, PeriodicResource.C_PERIOD), period);
            }
            dueNoneAfterChanges(comp, PeriodicResource.C_PERIOD);
        }
    }

    private static void budgetOrNone() {
        Check.sentence("C_BUDGET the interface Q, or -1 if there is no interface");
        for (int comp = 0; comp < 4; comp++) {
            PeriodicResource x = new PeriodicResource(64);
            Check.due("new", x.getComponent(comp, PeriodicResource.C_BUDGET), -1);
            // A budget of 0 is an interface, not the lack of one.
            x.computeInterface(comp, 32);
            Check.due("empty", x.getComponent(comp, PeriodicResource.C_BUDGET), 0);
            x.addTask(comp, 1, 1);
            for (int period = 1; period <= 32; period++) {
                x.computeInterface(comp, period);
                Check.due("budget", x.getComponent(comp, PeriodicResource.C_BUDGET), period);
            }
            dueNoneAfterChanges(comp, PeriodicResource.C_BUDGET);
        }
    }

    private static void dueNoneAfterChanges(int comp, int field) {
        PeriodicResource x = Stages.full();
        x.removeLastTask(comp);
        Check.due("after removeLastTask", x.getComponent(comp, field), -1);
        x.computeInterface(comp, 32);
        x.addTask(comp, 64, 1);
        Check.due("after addTask", x.getComponent(comp, field), -1);
        x.computeInterface(comp, 32);
        x.setPolicy(comp, PeriodicResource.FP);
        Check.due("after setPolicy", x.getComponent(comp, field), -1);
        x.removeLastTask(comp);
        x.addTask(comp, 1, 1);
        x.computeInterface(comp, 32);
        Check.due("after NO_BUDGET", x.getComponent(comp, field), -1);
    }
}
