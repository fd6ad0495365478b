public final class Promise11DemandBoundTest {
    public static void main(String[] args) {
        PeriodicResource x = Check.runningObject();
        int[] before = Check.state(x);
        for (int comp : new int[] {Check.MIN, -1, 4, 5, Check.MAX}) {
            Check.due("demandBound(" + comp + ", 8)", x.demandBound(comp, 8), -1);
        }
        for (int comp = 0; comp < 4; comp++) {
            for (int t : new int[] {Check.MIN, -1, 100001, Check.MAX}) {
                Check.due("demandBound(" + comp + ", " + t + ")", x.demandBound(comp, t), -1);
            }
            Check.due("demandBound(" + comp + ", 0)", x.demandBound(comp, 0), 0);
        }
        int[] times = {1, 7, 8, 11, 12, 16, 23, 24, 25, 100000};
        // 100000 = 12500 * 8 = 8333 * 12 + 4
        int[] demands = {0, 0, 2, 2, 5, 7, 7, 12, 12, 25000 + 24999};
        for (int i = 0; i < times.length; i++) {
            Check.due("demandBound(0, " + times[i] + ")", x.demandBound(0, times[i]), demands[i]);
        }
        Check.due("demandBound(1, 31)", x.demandBound(1, 31), 0);
        Check.due("demandBound(1, 64), a component under FP", x.demandBound(1, 64), 2);
        Check.due("demandBound(2, 100000), no tasks", x.demandBound(2, 100000), 0);
        Check.due("demandBound(3, 63)", x.demandBound(3, 63), 0);
        Check.due("state after demandBound", Check.state(x), before);
        greatest();
        Check.finish();
    }

    private static void greatest() {
        PeriodicResource x = new PeriodicResource(64);
        for (int i = 0; i < 8; i++) {
            x.addTask(3, 1, 1);
        }
        Check.due("demandBound(3, 100000)", x.demandBound(3, 100000), 800000);
        x.removeLastTask(3);
        Check.due("demandBound(3, 100000), one less", x.demandBound(3, 100000), 700000);
        Check.due("demandBound(2, 100000)", x.demandBound(2, 100000), 0);
    }
}
