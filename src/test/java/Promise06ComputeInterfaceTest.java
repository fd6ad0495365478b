public final class Promise06ComputeInterfaceTest {
    public static void main(String[] args) {
        refusals();
        accepted();
        noBudget();
        withoutTasks();
        deadlineCoverageReachesTheHorizon();
        fixedPriorityNeedsOneInstantOnly();
        policyDecides();
        everyPeriodGetsTheLeast();
        Check.finish();
    }

    private static void refusals() {
        PeriodicResource x = Check.runningObject();
        int[] before = Check.state(x);
        for (int comp : new int[] {Check.MIN, -1, 4, 5, Check.MAX}) {
            Check.due("computeInterface(" + comp + ", 4)", x.computeInterface(comp, 4), -1);
            Check.due("computeInterface(" + comp + ", 0)", x.computeInterface(comp, 0), -1);
        }
        for (int period : new int[] {Check.MIN, -1, 0, 33, 34, Check.MAX}) {
            for (int comp = 0; comp < 4; comp++) {
                Check.due("computeInterface(" + comp + ", " + period + ")",
                        x.computeInterface(comp, period), -1);
            }
        }
        Check.due("state after refusals", Check.state(x), before);
    }

    private static void accepted() {
        // Task (64,1): a server of period 32 brings its first sure unit by 63 with budget 1.
        PeriodicResource x = Check.runningObject();
        int[][] before = new int[4][];
        for (int c = 0; c < 4; c++) {
            before[c] = Check.settings(x, c);
        }
        Check.due("computeInterface(3, 32)", x.computeInterface(3, 32), 1);
        before[3][PeriodicResource.C_PERIOD] = 32;
        before[3][PeriodicResource.C_BUDGET] = 1;
        for (int c = 0; c < 4; c++) {
            Check.due("settings of " + c, Check.settings(x, c), before[c]);
        }
        Check.due("isAdmitted()", x.isAdmitted(), false);
        Check.dueReset("computeInterface(3, 32)", x);
    }

    private static void noBudget() {
        // Demand 5 by 5 and 10 by 8: even the whole processor is too little.
        for (int policy = 0; policy < 2; policy++) {
            PeriodicResource x = Check.admittedObject();
            x.addTask(3, 5, 5);
            x.addTask(3, 8, 5);
            x.setPolicy(3, policy);
            x.run(1);
            int[] others = Check.join(Check.settings(x, 0), Check.settings(x, 1));
            Check.due("computeInterface(3, 1)", x.computeInterface(3, 1), PeriodicResource.NO_BUDGET);
            Check.due("computeInterface(3, 32)", x.computeInterface(3, 32), PeriodicResource.NO_BUDGET);
            Check.due("period", x.getComponent(3, PeriodicResource.C_PERIOD), -1);
            Check.due("budget", x.getComponent(3, PeriodicResource.C_BUDGET), -1);
            Check.due("policy", x.getComponent(3, PeriodicResource.C_POLICY), policy);
            Check.due("tasks", x.getComponent(3, PeriodicResource.C_TASKS), 3);
            Check.due("others", Check.join(Check.settings(x, 0), Check.settings(x, 1)), others);
        }
        noBudgetTakesAdmissionBack();
    }

    private static void noBudgetTakesAdmissionBack() {
        PeriodicResource x = Check.admittedObject();
        x.addTask(1, 2, 2);
        Check.forceAdmitted(x);
        x.run(6);
        Check.due("computeInterface(1, 9)", x.computeInterface(1, 9), -2);
        Check.due("isAdmitted()", x.isAdmitted(), false);
        Check.dueReset("computeInterface(1, 9)", x);
    }

    private static void withoutTasks() {
        for (int comp = 0; comp < 4; comp++) {
            for (int policy = 0; policy < 2; policy++) {
                PeriodicResource x = new PeriodicResource(64);
                x.setPolicy(comp, policy);
                for (int period = 1; period <= 32; period++) {
                    Check.due("computeInterface(" + comp + ", " + period + ")",
                            x.computeInterface(comp, period), 0);
                    Check.due("period", x.getComponent(comp, PeriodicResource.C_PERIOD), period);
                    Check.due("budget", x.getComponent(comp, PeriodicResource.C_BUDGET), 0);
                }
            }
        }
    }

    private static void deadlineCoverageReachesTheHorizon() {
        // Each row: two tasks, a server period, the first horizon that sees the lack, and
        // the answers just before it and at it.
        int[][] rows = {
            {39, 38, 62, 14, 6, 78, 6, -2},
            {30, 9, 55, 40, 1, 220, 1, -2},
            {43, 17, 56, 12, 7, 129, 4, 5},
        };
        for (int[] row : rows) {
            for (int step = 0; step < 2; step++) {
                PeriodicResource x = new PeriodicResource(row[5] - 1 + step);
                x.addTask(0, row[0], row[1]);
                x.addTask(0, row[2], row[3]);
                Check.due("computeInterface(0, " + row[4] + ") with horizon " + x.getHorizon(),
                        x.computeInterface(0, row[4]), row[6 + step]);
            }
        }
    }

    private static PeriodicResource fixedPriority(int... tasks) {
        PeriodicResource x = new PeriodicResource(64);
        x.setPolicy(0, PeriodicResource.FP);
        for (int i = 0; i < tasks.length; i += 2) {
            x.addTask(0, tasks[i], tasks[i + 1]);
        }
        return x;
    }

    private static void fixedPriorityNeedsOneInstantOnly() {
        // Covered at t = 9 and 10 alone.
        Check.due("(10,1)", fixedPriority(10, 1).computeInterface(0, 5), 1);
        // The second task is covered at t = 4, no more at its deadline.
        Check.due("(4,3) and (5,1)", fixedPriority(4, 3, 5, 1).computeInterface(0, 1), 1);
        // Covered at the very deadline alone, and one unit beyond it would be needed.
        Check.due("(3,3)", fixedPriority(3, 3).computeInterface(0, 1), 1);
        Check.due("(3,1) and (4,3)", fixedPriority(3, 1, 4, 3).computeInterface(0, 1), -2);
        // A server of budget below its period gives (2,1) no sure unit in time.
        Check.due("(2,1) by 2", fixedPriority(2, 1).computeInterface(0, 2), 2);
        Check.due("(2,1) by 3", fixedPriority(2, 1).computeInterface(0, 3), 3);
        // Utilisation one, then a little more.
        Check.due("(2,1) and (4,2)", fixedPriority(2, 1, 4, 2).computeInterface(0, 1), 1);
        Check.due("(2,1), (4,2), (64,1)", fixedPriority(2, 1, 4, 2, 64, 1).computeInterface(0, 1), -2);
    }

    private static void policyDecides() {
        // Utilisation one: EDF fits; under FP the second task waits too long for the first.
        PeriodicResource x = new PeriodicResource(120);
        x.addTask(0, 6, 3);
        x.addTask(0, 4, 2);
        Check.due("EDF", x.computeInterface(0, 1), 1);
        x.setPolicy(0, PeriodicResource.FP);
        Check.due("FP", x.computeInterface(0, 1), -2);
        // The order of tasks is their priority under FP.
        Check.due("short first", fixedPriority(4, 1, 20, 5).computeInterface(0, 2), 2);
        Check.due("long first", fixedPriority(20, 5, 4, 1).computeInterface(0, 2), -2);
    }

    private static void everyPeriodGetsTheLeast() {
        int[][] sets = {
            {8, 2, 12, 3}, {10, 1, 20, 4}, {5, 1, 7, 2, 64, 3}, {64, 64}, {1, 1}, {40, 3, 50, 5, 60, 7},
            {64, 1, 64, 1, 64, 1, 64, 1, 64, 1, 64, 1, 64, 1, 64, 1},
            {9, 1, 13, 1, 17, 1, 21, 1, 25, 1, 33, 1, 49, 1, 64, 1},
        };
        for (int[] set : sets) {
            for (int policy = 0; policy < 2; policy++) {
                PeriodicResource x = new PeriodicResource(130);
                x.setPolicy(1, policy);
                for (int i = 0; i < set.length; i += 2) {
                    x.addTask(1, set[i], set[i + 1]);
                }
                for (int period = 1; period <= 32; period++) {
                    int want = leastByReading(x, 1, period);
                    Check.due("computeInterface(1, " + period + ")", x.computeInterface(1, period), want);
                    Check.due("period", x.getComponent(1, PeriodicResource.C_PERIOD), want < 0 ? -1 : period);
                    Check.due("budget", x.getComponent(1, PeriodicResource.C_BUDGET), want < 0 ? -1 : want);
                    Check.due("left", x.getBudgetLeft(1), want < 0 ? 0 : want);
                }
            }
        }
    }

    private static int leastByReading(PeriodicResource x, int comp, int period) {
        for (int budget = 0; budget <= period; budget++) {
            if (coversByReading(x, comp, period, budget)) {
                return budget;
            }
        }
        return -2;
    }

    private static boolean coversByReading(PeriodicResource x, int comp, int period, int budget) {
        if (x.getComponent(comp, PeriodicResource.C_POLICY) == PeriodicResource.EDF) {
            for (int t = 1; t <= x.getHorizon(); t++) {
                if (x.demandBound(comp, t) > x.supplyBound(period, budget, t)) {
                    return false;
                }
            }
            return true;
        }
        for (int task = 0; task < x.getComponent(comp, PeriodicResource.C_TASKS); task++) {
            boolean met = false;
            for (int t = 1; t <= x.getTask(comp, task, PeriodicResource.T_PERIOD); t++) {
                met |= x.requestBound(comp, task, t) <= x.supplyBound(period, budget, t);
            }
            if (!met) {
                return false;
            }
        }
        return true;
    }
}
