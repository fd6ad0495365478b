public final class Promise10SupplyBoundTest {
    public static void main(String[] args) {
        PeriodicResource x = Check.runningObject();
        int[] before = Check.state(x);
        refusals(x);
        againstThePattern(x);
        farOut(x);
        Check.due("state after supplyBound", Check.state(x), before);
        Check.due("on a new object", new PeriodicResource(64).supplyBound(4, 3, 24), 17);
        Check.finish();
    }

    private static void refuse(PeriodicResource x, int period, int budget, int t) {
        Check.due("supplyBound(" + period + ", " + budget + ", " + t + ")",
                x.supplyBound(period, budget, t), -1);
    }

    private static void refusals(PeriodicResource x) {
        for (int period : new int[] {Check.MIN, -1, 0, 33, Check.MAX}) {
            refuse(x, period, 0, 10);
            refuse(x, period, 1, 10);
            refuse(x, period, period, 10);
        }
        for (int period : new int[] {1, 2, 31, 32}) {
            for (int budget : new int[] {Check.MIN, -1, period + 1, Check.MAX}) {
                refuse(x, period, budget, 10);
            }
            for (int t : new int[] {Check.MIN, -1, 100001, Check.MAX}) {
                refuse(x, period, 0, t);
                refuse(x, period, period, t);
            }
        }
    }

    // Counts the units of the worst pattern: a blackout of 2(P-Q), then Q of every P.
    private static void againstThePattern(PeriodicResource x) {
        for (int period = 1; period <= 32; period++) {
            for (int budget = 0; budget <= period; budget++) {
                int blackout = 2 * (period - budget);
                int units = 0;
                for (int t = 0; t <= 300; t++) {
                    Check.due("supplyBound(" + period + ", " + budget + ", " + t + ")",
                            x.supplyBound(period, budget, t), units);
                    if (t >= blackout && (t - blackout) % period < budget) {
                        units++;
                    }
                }
            }
        }
    }

    private static void farOut(PeriodicResource x) {
        Check.due("(1,1,MAX_T)", x.supplyBound(1, 1, 100000), 100000);
        Check.due("(32,32,MAX_T)", x.supplyBound(32, 32, 100000), 100000);
        Check.due("(32,0,MAX_T)", x.supplyBound(32, 0, 100000), 0);
        // 100000 - 31 = 3124 * 32 + 1
        Check.due("(32,1,MAX_T)", x.supplyBound(32, 1, 100000), 3124);
        // 99999 - 31 = 3124 * 32
        Check.due("(32,1,MAX_T-1)", x.supplyBound(32, 1, 99999), 3124);
        Check.due("(32,1,MAX_T-2)", x.supplyBound(32, 1, 99998), 3123);
    }
}
