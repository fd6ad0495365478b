public final class Promise11DemandBoundTest {
    public static void main(String[] args) {
        pure();
        refusedComponent();
        refusedTime();
        testsInOrder();
        whateverThePolicy();
        withoutTasks();
        atZero();
        Check.finish();
    }

    private static String name(int comp, int t) {
        return "demandBound(" + comp + ", " + t + ")";
    }

    private static void refuse(int comp, int t) {
        Stages.changesNothing(name(comp, t), x -> x.demandBound(comp, t), PeriodicResource.REFUSED);
    }

    private static void pure() {
        Check.sentence("`demandBound(comp, t)` is pure.");
        for (Stages.Stage stage : Stages.ALL) {
            for (int comp = 0; comp < 4; comp++) {
                int c = comp;
                int want = stage.make().demandBound(c, 64);
                Stages.changesNothing(stage, name(c, 64), x -> x.demandBound(c, 64), want);
            }
        }
        // It counts what is set, however far the simulation has come.
        for (int units = 1; units <= 100; units += 11) {
            PeriodicResource x = Stages.admitted();
            x.run(units);
            Check.due(name(0, 24) + " after " + units, x.demandBound(0, 24), 12);
        }
    }

    private static void refusedComponent() {
        Check.sentence("If either fails it answers REFUSED.", "comp in 0..3");
        for (int comp : Check.outside(0, 3)) {
            refuse(comp, 0);
            refuse(comp, 8);
            refuse(comp, 100000);
        }
    }

    private static void refusedTime() {
        Check.sentence("If either fails it answers REFUSED.", "t in 0..MAX_T");
        for (int comp = 0; comp < 4; comp++) {
            for (int t : Check.outside(0, 100000)) {
                refuse(comp, t);
            }
        }
    }

    private static void testsInOrder() {
        Check.sentence("It tests in order: comp in 0..3; t in 0..MAX_T.");
        for (int comp : Check.outside(0, 3)) {
            refuse(comp, -1);
            refuse(comp, 100001);
            refuse(comp, comp);
        }
        // The ends of both ranges are accepted. 100000 = 12500 * 8 = 8333 * 12 + 4
        PeriodicResource x = Stages.running();
        Check.due(name(0, 0), x.demandBound(0, 0), 0);
        Check.due(name(0, 100000), x.demandBound(0, 100000), 12500 * 2 + 8333 * 3);
        Check.due(name(3, 0), x.demandBound(3, 0), 0);
        Check.due(name(3, 100000), x.demandBound(3, 100000), 1562);
    }

    private static void whateverThePolicy() {
        Check.sentence("Otherwise it answers dbf(comp,t), whatever the component's policy");
        int[] times = {1, 7, 8, 11, 12, 16, 23, 24, 25, 100000};
        int[] demands = {0, 0, 2, 2, 5, 7, 7, 12, 12, 25000 + 24999};
        for (int comp = 0; comp < 4; comp++) {
            for (int policy = 0; policy < 2; policy++) {
                PeriodicResource x = Stages.withTasks(64, comp, policy, 8, 2, 12, 3);
                for (int i = 0; i < times.length; i++) {
                    Check.due(name(comp, times[i]), x.demandBound(comp, times[i]), demands[i]);
                }
                // Under FP the first task alone would ask for less.
                x.setPolicy(comp, 1 - policy);
                Check.due(name(comp, 24), x.demandBound(comp, 24), 12);
            }
        }
    }

    private static void withoutTasks() {
        Check.sentence("the answer is 0 when the component has no tasks");
        int[] times = {0, 1, 63, 64, 65, 256, 99999, 100000};
        for (int comp = 0; comp < 4; comp++) {
            // The other three are full, and this one was.
            PeriodicResource x = Stages.full();
            for (int i = 0; i < 8; i++) {
                x.removeLastTask(comp);
            }
            for (int t : times) {
                Check.due(name(comp, t) + ", emptied", x.demandBound(comp, t), 0);
                Check.due(name(comp, t) + ", new", new PeriodicResource(64).demandBound(comp, t), 0);
            }
        }
        Check.due(name(2, 100000) + " with an interface", Stages.running().demandBound(2, 100000), 0);
    }

    private static void atZero() {
        Check.sentence("and 0 for t = 0", "demandBound");
        for (Stages.Stage stage : Stages.ALL) {
            for (int comp = 0; comp < 4; comp++) {
                Check.due(name(comp, 0) + " (" + stage.name + ")", stage.make().demandBound(comp, 0), 0);
            }
        }
        // Even where one unit later there is demand.
        PeriodicResource x = Stages.withTasks(64, 0, PeriodicResource.EDF, 1, 1, 1, 1);
        Check.due(name(0, 0), x.demandBound(0, 0), 0);
        Check.due(name(0, 1), x.demandBound(0, 1), 2);
    }
}
