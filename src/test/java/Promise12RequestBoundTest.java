public final class Promise12RequestBoundTest {
    public static void main(String[] args) {
        PeriodicResource x = Check.runningObject();
        int[] before = Check.state(x);
        refusals(x);
        int[] times = {0, 1, 8, 9, 12, 13, 16, 17, 24, 25, 100000};
        // 100000 = 12500 * 8 = 8333 * 12 + 4
        int[] first = {0, 2, 2, 4, 4, 4, 4, 6, 6, 8, 25000};
        int[] both = {0, 5, 5, 7, 7, 10, 10, 12, 12, 17, 25000 + 25002};
        for (int i = 0; i < times.length; i++) {
            Check.due("requestBound(0, 0, " + times[i] + ")", x.requestBound(0, 0, times[i]), first[i]);
            Check.due("requestBound(0, 1, " + times[i] + ")", x.requestBound(0, 1, times[i]), both[i]);
        }
        Check.due("requestBound(1, 0, 32)", x.requestBound(1, 0, 32), 1);
        Check.due("requestBound(1, 0, 33)", x.requestBound(1, 0, 33), 2);
        Check.due("requestBound(3, 0, 1)", x.requestBound(3, 0, 1), 1);
        Check.due("state after requestBound", Check.state(x), before);
        fullComponent();
        Check.finish();
    }

    private static void refuse(PeriodicResource x, int comp, int task, int t) {
        Check.due("requestBound(" + comp + ", " + task + ", " + t + ")",
                x.requestBound(comp, task, t), -1);
    }

    private static void refusals(PeriodicResource x) {
        for (int comp : new int[] {Check.MIN, -1, 4, 5, Check.MAX}) {
            refuse(x, comp, 0, 8);
        }
        for (int task : new int[] {Check.MIN, -1, 2, 3, 7, 8, Check.MAX}) {
            refuse(x, 0, task, 8);
            refuse(x, 0, task, 0);
        }
        refuse(x, 1, 1, 8);
        refuse(x, 2, 0, 8);
        refuse(x, 2, 0, 0);
        for (int t : new int[] {Check.MIN, -1, 100001, Check.MAX}) {
            refuse(x, 0, 0, t);
            refuse(x, 0, 1, t);
        }
    }

    private static void fullComponent() {
        PeriodicResource x = new PeriodicResource(64);
        for (int i = 0; i < 8; i++) {
            x.addTask(3, 1, 1);
        }
        for (int i = 0; i < 8; i++) {
            Check.due("requestBound(3, " + i + ", 100000)",
                    x.requestBound(3, i, 100000), (i + 1) * 100000);
        }
        refuse(x, 3, 8, 1);
        x.removeLastTask(3);
        refuse(x, 3, 7, 1);
    }
}
