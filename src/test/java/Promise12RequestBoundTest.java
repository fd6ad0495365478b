public final class Promise12RequestBoundTest {
    public static void main(String[] args) {
        pure();
        refusedComponent();
        refusedTask();
        refusedTime();
        refusedWithoutTasks();
        testsInOrder();
        whateverThePolicy();
        atZero();
        Check.finish();
    }

    private static String name(int comp, int task, int t) {
        return "requestBound(" + comp + ", " + task + ", " + t + ")";
    }

    private static void refuse(int comp, int task, int t) {
        Stages.changesNothing(name(comp, task, t),
                x -> x.requestBound(comp, task, t), PeriodicResource.REFUSED);
    }

    private static void pure() {
        Check.sentence("`requestBound(comp, task, t)` is pure.");
        for (Stages.Stage stage : Stages.ALL) {
            for (int comp = 0; comp < 4; comp++) {
                int c = comp;
                int want = stage.make().requestBound(c, 0, 64);
                Stages.changesNothing(stage, name(c, 0, 64), x -> x.requestBound(c, 0, 64), want);
            }
        }
        // It counts what is set, however far the simulation has come.
        for (int units = 1; units <= 100; units += 11) {
            PeriodicResource x = Stages.admitted();
            x.run(units);
            Check.due(name(0, 1, 25) + " after " + units, x.requestBound(0, 1, 25), 17);
        }
    }

    private static void refusedComponent() {
        Check.sentence("If any fails it answers REFUSED (so always REFUSED for a component with no tasks).",
                "comp in 0..3");
        for (int comp : Check.outside(0, 3)) {
            refuse(comp, 0, 0);
            refuse(comp, 0, 8);
            refuse(comp, 1, 100000);
        }
    }

    private static void refusedTask() {
        Check.sentence("task in 0..n-1, where n is that component's task count", "requestBound");
        for (int n = 0; n <= 8; n++) {
            for (int comp = 0; comp < 4; comp++) {
                dueTasks(n, comp);
            }
        }
    }

    // The other components are full, so that a look into them would be answered.
    private static void dueTasks(int n, int comp) {
        PeriodicResource x = Stages.full();
        for (int i = n; i < 8; i++) {
            x.removeLastTask(comp);
        }
        int[] before = Check.state(x);
        for (int task : Check.outside(0, n - 1)) {
            Check.due(name(comp, task, 8) + " of " + n, x.requestBound(comp, task, 8), -1);
            Check.due(name(comp, task, 0) + " of " + n, x.requestBound(comp, task, 0), -1);
        }
        for (int task = n; task <= 40; task++) {
            Check.due(name(comp, task, 8) + " of " + n, x.requestBound(comp, task, 8), -1);
        }
        for (int task = 0; task < n; task++) {
            Check.due(name(comp, task, 8) + " of " + n, x.requestBound(comp, task, 8), task + 1);
        }
        Check.due("state", Check.state(x), before);
    }

    private static void refusedTime() {
        Check.sentence("If any fails it answers REFUSED (so always REFUSED for a component with no tasks).",
                "t in 0..MAX_T");
        for (int t : Check.outside(0, 100000)) {
            for (int comp = 0; comp < 4; comp++) {
                refuse(comp, 0, t);
            }
            Check.due(name(1, 7, t), Stages.full().requestBound(1, 7, t), -1);
        }
    }

    private static void refusedWithoutTasks() {
        Check.sentence("(so always REFUSED for a component with no tasks)");
        for (int comp = 0; comp < 4; comp++) {
            PeriodicResource fresh = new PeriodicResource(64);
            PeriodicResource emptied = Stages.full();
            for (int i = 0; i < 8; i++) {
                emptied.removeLastTask(comp);
            }
            for (int task = -1; task <= 8; task++) {
                for (int t : new int[] {0, 1, 64, 100000}) {
                    Check.due(name(comp, task, t) + ", new", fresh.requestBound(comp, task, t), -1);
                    Check.due(name(comp, task, t) + ", emptied", emptied.requestBound(comp, task, t), -1);
                }
            }
        }
    }

    private static void testsInOrder() {
        Check.sentence("It tests in order: comp in 0..3; task in 0..n-1, where n is that component's task count; "
                + "t in 0..MAX_T.");
        for (int comp : Check.outside(0, 3)) {
            refuse(comp, -1, -1);
            refuse(comp, comp, comp);
            refuse(comp, 8, 100001);
        }
        refuse(0, 8, -1);
        refuse(3, -1, 100001);
        // The ends of all three ranges are accepted. 1563 * 64 is the first multiple above 100000.
        PeriodicResource x = Stages.full();
        Check.due(name(0, 0, 0), x.requestBound(0, 0, 0), 0);
        Check.due(name(0, 0, 100000), x.requestBound(0, 0, 100000), 1563);
        Check.due(name(3, 7, 0), x.requestBound(3, 7, 0), 0);
        int want = 0;
        for (int period = 57; period <= 64; period++) {
            want += 100000 / period + 1;
        }
        Check.due(name(3, 7, 100000), x.requestBound(3, 7, 100000), want);
    }

    private static void whateverThePolicy() {
        Check.sentence("Otherwise it answers rbf(comp,task,t), whatever the component's policy");
        int[] times = {0, 1, 8, 9, 12, 13, 16, 17, 24, 25, 100000};
        // 100000 = 12500 * 8 = 8333 * 12 + 4
        int[] first = {0, 2, 2, 4, 4, 4, 4, 6, 6, 8, 25000};
        int[] both = {0, 5, 5, 7, 7, 10, 10, 12, 12, 17, 25000 + 25002};
        for (int comp = 0; comp < 4; comp++) {
            for (int policy = 0; policy < 2; policy++) {
                PeriodicResource x = Stages.withTasks(64, comp, policy, 8, 2, 12, 3);
                for (int i = 0; i < times.length; i++) {
                    Check.due(name(comp, 0, times[i]), x.requestBound(comp, 0, times[i]), first[i]);
                    Check.due(name(comp, 1, times[i]), x.requestBound(comp, 1, times[i]), both[i]);
                }
            }
        }
    }

    private static void atZero() {
        Check.sentence("the answer is 0 for t = 0", "requestBound");
        PeriodicResource x = Stages.full();
        for (int comp = 0; comp < 4; comp++) {
            for (int task = 0; task < 8; task++) {
                Check.due(name(comp, task, 0), x.requestBound(comp, task, 0), 0);
                Check.due(name(comp, task, 1), x.requestBound(comp, task, 1), task + 1);
            }
        }
        PeriodicResource y = Stages.withTasks(64, 0, PeriodicResource.FP, 1, 1, 64, 64);
        Check.due(name(0, 0, 0), y.requestBound(0, 0, 0), 0);
        Check.due(name(0, 1, 0), y.requestBound(0, 1, 0), 0);
    }
}
