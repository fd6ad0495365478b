public final class Promise06ComputeInterfaceTest {
    // Task sets from light to too heavy: T, C, T, C, ..
    private static final int[][] SETS = {
        {}, {8, 2, 12, 3}, {10, 1, 20, 4}, {5, 1, 7, 2, 64, 3}, {64, 64}, {1, 1}, {64, 1}, {2, 1},
        {40, 3, 50, 5, 60, 7}, {4, 3, 5, 1}, {20, 5, 4, 1}, {2, 2, 3, 1}, {1, 1, 1, 1}, {6, 1, 43, 36},
        {64, 1, 64, 1, 64, 1, 64, 1, 64, 1, 64, 1, 64, 1, 64, 1},
        {9, 1, 13, 1, 17, 1, 21, 1, 25, 1, 33, 1, 49, 1, 64, 1},
        {64, 64, 64, 64, 64, 64, 64, 64, 64, 64, 64, 64, 64, 64, 64, 64},
    };

    public static void main(String[] args) {
        refusedComponent();
        refusedPeriod();
        edgesAccepted();
        least();
        currentPolicy();
        currentTasks();
        currentHorizon();
        interfaceBecomes();
        replacingAnEarlierOne();
        noBudget();
        noBudgetTakesTheInterface();
        admissionGoes();
        admissionGoesWithNoBudget();
        withoutTasks();
        coversAsRead();
        oneLessDoesNotCover();
        noBudgetIsNotCovered();
        restDoesNotChange();
        Check.finish();
    }

    private static String name(int comp, int period) {
        return "computeInterface(" + comp + ", " + period + ")";
    }

    private static void refuse(int comp, int period) {
        Stages.changesNothing(name(comp, period), x -> x.computeInterface(comp, period), PeriodicResource.REFUSED);
    }

    private static void refusedComponent() {
        Check.sentence("If either fails it answers REFUSED and nothing changes.", "comp in 0..3");
        for (int comp : Check.outside(0, 3)) {
            refuse(comp, 1);
            refuse(comp, 4);
            refuse(comp, 32);
        }
    }

    private static void refusedPeriod() {
        Check.sentence("If either fails it answers REFUSED and nothing changes.", "period in 1..32");
        for (int comp = 0; comp < 4; comp++) {
            for (int period : Check.outside(1, 32)) {
                refuse(comp, period);
            }
            refuse(comp, 64);
        }
    }

    private static void edgesAccepted() {
        Check.sentence("`computeInterface(comp, period)` tests in order: comp in 0..3; period in 1..32.");
        for (int comp : Check.outside(0, 3)) {
            refuse(comp, 0);
            refuse(comp, 33);
            refuse(comp, comp);
        }
        for (int comp = 0; comp < 4; comp++) {
            for (int period = 1; period <= 32; period++) {
                PeriodicResource x = new PeriodicResource(64);
                x.addTask(comp, 1, 1);
                Check.due(name(comp, period), x.computeInterface(comp, period), period);
            }
        }
    }

    private static void least() {
        Check.sentence("it finds the least Q in 0..period such that (period,Q) covers the component");
        for (int period = 1; period <= 32; period++) {
            for (int budget = 1; budget <= period; budget++) {
                for (int policy = 0; policy < 2; policy++) {
                    dueLeast(period, budget, policy);
                }
            }
        }
    }

    // One task of twice the server's period: just as much work as the budget surely brings.
    private static void dueLeast(int period, int budget, int policy) {
        int comp = (period + budget) % 4;
        int work = Stages.workFor(period, budget);
        PeriodicResource x = Stages.withTasks(64, comp, policy, 2 * period, work);
        Check.due(name(comp, period) + " for work " + work, x.computeInterface(comp, period), budget);
        if (work < 2 * period) {
            PeriodicResource y = Stages.withTasks(64, comp, policy, 2 * period, work + 1);
            Check.due(name(comp, period) + " for work " + (work + 1),
                    y.computeInterface(comp, period), budget + 1);
        }
    }

    private static void currentPolicy() {
        Check.sentence("under its current policy, its current tasks and H", "policy");
        // Utilisation one: EDF fits; under FP the second task waits too long for the first.
        PeriodicResource x = Stages.withTasks(120, 0, PeriodicResource.EDF, 6, 3, 4, 2);
        Check.due("EDF", x.computeInterface(0, 1), 1);
        x.setPolicy(0, PeriodicResource.FP);
        Check.due("FP", x.computeInterface(0, 1), -2);
        x.setPolicy(0, PeriodicResource.EDF);
        Check.due("EDF again", x.computeInterface(0, 1), 1);
        // Another component's policy is of no account.
        x.setPolicy(1, PeriodicResource.FP);
        x.setPolicy(3, PeriodicResource.FP);
        Check.due("EDF beside FP", x.computeInterface(0, 1), 1);
    }

    private static void currentTasks() {
        Check.sentence("under its current policy, its current tasks and H", "tasks");
        for (int policy = 0; policy < 2; policy++) {
            // Work 1, 2, 3, .. by 64 units: budgets 1, 2, 3, .. of 32, and back again.
            PeriodicResource x = Stages.withTasks(64, 1, policy);
            for (int count = 1; count <= 8; count++) {
                x.addTask(1, 64, 1);
                Check.due("with " + count, x.computeInterface(1, 32), count);
            }
            for (int count = 7; count >= 0; count--) {
                x.removeLastTask(1);
                Check.due("with " + count + " left", x.computeInterface(1, 32), count);
            }
            // Another component's tasks are of no account.
            x.addTask(0, 1, 1);
            x.addTask(2, 1, 1);
            Check.due("beside others", x.computeInterface(1, 32), 0);
        }
    }

    private static void currentHorizon() {
        Check.sentence("under its current policy, its current tasks and H", "H");
        // Two tasks, a server period, the least horizon that sees the lack, and the answers
        // with a horizon one less and with that one.
        int[][] rows = {
            {5, 2, 13, 8, 1, 65, 1, -2},
            {39, 38, 62, 14, 6, 78, 6, -2},
            {3, 1, 50, 34, 1, 100, 1, -2},
            {43, 17, 56, 12, 7, 129, 4, 5},
            {30, 9, 55, 40, 1, 220, 1, -2},
            {5, 1, 51, 41, 1, 255, 1, -2},
            {5, 3, 64, 26, 1, 256, 1, -2},
        };
        for (int[] row : rows) {
            for (int step = 0; step < 2; step++) {
                PeriodicResource x = Stages.withTasks(row[5] - 1 + step, 0, PeriodicResource.EDF,
                        row[0], row[1], row[2], row[3]);
                Check.due(name(0, row[4]) + " with horizon " + x.getHorizon(),
                        x.computeInterface(0, row[4]), row[6 + step]);
            }
        }
        // Seen first at 258, that is by no horizon; and at 64, that is by every one.
        PeriodicResource y = Stages.withTasks(258, 0, PeriodicResource.EDF, 6, 1, 43, 36);
        Check.due("(6,1) and (43,36) with horizon 258", y.computeInterface(0, 1), 1);
        PeriodicResource z = Stages.withTasks(0, 0, PeriodicResource.EDF, 2, 1, 64, 33);
        Check.due("(2,1) and (64,33) with horizon 0", z.computeInterface(0, 1), -2);
    }

    private static void interfaceBecomes() {
        Check.sentence("If such a Q exists, the component's interface becomes (period,Q) "
                + "(replacing any earlier interface) and the answer is Q.");
        for (int period = 1; period <= 32; period++) {
            for (int budget = 0; budget <= period; budget++) {
                int comp = (period + budget) % 4;
                PeriodicResource x = new PeriodicResource(64);
                if (budget > 0) {
                    Stages.addTaskFor(x, comp, period, budget);
                }
                Check.due(name(comp, period), x.computeInterface(comp, period), budget);
                Check.due("period", x.getComponent(comp, PeriodicResource.C_PERIOD), period);
                Check.due("budget", x.getComponent(comp, PeriodicResource.C_BUDGET), budget);
                Check.due("left", x.getBudgetLeft(comp), budget);
            }
        }
    }

    private static void replacingAnEarlierOne() {
        Check.sentence("(replacing any earlier interface)");
        for (int comp = 0; comp < 4; comp++) {
            // The task (1,1) needs the whole of any period.
            PeriodicResource x = new PeriodicResource(64);
            x.addTask(comp, 1, 1);
            for (int period : new int[] {32, 1, 16, 31, 1, 1}) {
                x.computeInterface(comp, period);
                Check.due("period", x.getComponent(comp, PeriodicResource.C_PERIOD), period);
                Check.due("budget", x.getComponent(comp, PeriodicResource.C_BUDGET), period);
                Check.due("left", x.getBudgetLeft(comp), period);
                // Only the last one takes part in the sum of bandwidths.
                Check.due("admit()", x.admit(), true);
                x.run(1);
            }
        }
    }

    private static void noBudget() {
        Check.sentence("If none exists, the component has no interface afterwards and the answer is NO_BUDGET.");
        for (int policy = 0; policy < 2; policy++) {
            for (int comp = 0; comp < 4; comp++) {
                for (int period = 1; period <= 32; period++) {
                    // Two units of work by the first instant; or 65 by the 64th.
                    dueNoBudget(Stages.withTasks(64, comp, policy, 1, 1, 1, 1), comp, period);
                    dueNoBudget(Stages.withTasks(64, comp, policy, 64, 64, 64, 1), comp, period);
                }
            }
        }
    }

    private static void noBudgetTakesTheInterface() {
        Check.sentence("If none exists, the component has no interface afterwards and the answer is NO_BUDGET.",
                "an earlier interface");
        for (int policy = 0; policy < 2; policy++) {
            for (int comp = 0; comp < 4; comp++) {
                PeriodicResource x = Stages.withTasks(64, comp, policy, 1, 1, 1, 1);
                if (!Stages.forceInterface(x, comp)) {
                    Check.skip("no way was found to give an interface to a component that none covers");
                    return;
                }
                dueNoBudget(x, comp, 4);
            }
        }
    }

    private static void dueNoBudget(PeriodicResource x, int comp, int period) {
        Check.due(name(comp, period), x.computeInterface(comp, period), PeriodicResource.NO_BUDGET);
        Check.due("period", x.getComponent(comp, PeriodicResource.C_PERIOD), -1);
        Check.due("budget", x.getComponent(comp, PeriodicResource.C_BUDGET), -1);
        Check.due("left", x.getBudgetLeft(comp), 0);
        Check.due("admit()", x.admit(), false);
    }

    private static void admissionGoes() {
        Check.sentence("In both cases it then sets admitted = false and RESETs.", "a budget");
        for (Stages.Stage stage : Stages.ALL) {
            for (int comp = 0; comp < 4; comp++) {
                for (int period : new int[] {1, 4, 5, 8, 16, 32}) {
                    PeriodicResource x = stage.make();
                    if (x.computeInterface(comp, period) >= 0) {
                        Check.dueTakenBack(name(comp, period) + " (" + stage.name + ")", x);
                    }
                }
            }
        }
        // The interface that was there already: still accepted, still taken back.
        PeriodicResource y = Stages.running();
        Check.due("computeInterface(2, 5)", y.computeInterface(2, 5), 0);
        Check.dueTakenBack("computeInterface(2, 5)", y);
    }

    private static void admissionGoesWithNoBudget() {
        Check.sentence("In both cases it then sets admitted = false and RESETs.", "NO_BUDGET");
        // Without force the component would keep the object from being admitted in the first place.
        PeriodicResource x = Stages.admitted();
        x.addTask(1, 2, 2);
        if (!Stages.forceAdmitted(x)) {
            Check.skip(Stages.NO_FORCE);
            return;
        }
        x.run(6);
        Check.due("getTime()", x.getTime(), 6);
        Check.due("computeInterface(1, 9)", x.computeInterface(1, 9), PeriodicResource.NO_BUDGET);
        Check.dueTakenBack("computeInterface(1, 9)", x);
    }

    private static void withoutTasks() {
        Check.sentence("a component with no tasks always gets Q = 0");
        for (int comp = 0; comp < 4; comp++) {
            for (int policy = 0; policy < 2; policy++) {
                PeriodicResource x = Stages.withTasks(64, comp, policy);
                PeriodicResource emptied = Stages.withTasks(64, comp, policy, 1, 1);
                emptied.removeLastTask(comp);
                for (int period = 1; period <= 32; period++) {
                    Check.due(name(comp, period), x.computeInterface(comp, period), 0);
                    Check.due("period", x.getComponent(comp, PeriodicResource.C_PERIOD), period);
                    Check.due("budget", x.getComponent(comp, PeriodicResource.C_BUDGET), 0);
                    Check.due(name(comp, period) + ", emptied", emptied.computeInterface(comp, period), 0);
                }
            }
        }
    }

    /** How an answer is looked at, right after the call that gave it. */
    private interface Look {
        void at(PeriodicResource x, int period, int answer);
    }

    private static void forEachSet(Look look) {
        for (int[] set : SETS) {
            for (int policy = 0; policy < 2; policy++) {
                PeriodicResource x = Stages.withTasks(130, 1, policy, set);
                for (int period = 1; period <= 32; period++) {
                    look.at(x, period, x.computeInterface(1, period));
                }
            }
        }
    }

    private static void coversAsRead() {
        Check.sentence("When the answer is Q >= 0, then right after the call (period,Q) covers the component "
                + "as read through demandBound, requestBound, supplyBound and the getters");
        forEachSet((x, period, answer) -> {
            if (answer >= 0) {
                Check.due("budget", x.getComponent(1, PeriodicResource.C_BUDGET), answer);
                Check.due("(" + period + "," + answer + ") covers", coversAsRead(x, 1, period, answer), true);
            }
        });
    }

    private static void oneLessDoesNotCover() {
        Check.sentence("if Q > 0 then (period,Q-1) does not cover it");
        forEachSet((x, period, answer) -> {
            if (answer > 0) {
                Check.due("(" + period + "," + (answer - 1) + ") covers",
                        coversAsRead(x, 1, period, answer - 1), false);
            }
        });
    }

    private static void noBudgetIsNotCovered() {
        Check.sentence("When the answer is NO_BUDGET, (period,period) does not cover it.");
        forEachSet((x, period, answer) -> {
            boolean fullCovers = coversAsRead(x, 1, period, period);
            Check.due("(" + period + "," + period + ") covers", fullCovers, answer != PeriodicResource.NO_BUDGET);
        });
    }

    private static boolean coversAsRead(PeriodicResource x, int comp, int period, int budget) {
        if (x.getComponent(comp, PeriodicResource.C_POLICY) == PeriodicResource.EDF) {
            for (int t = 1; t <= x.getHorizon(); t++) {
                if (x.demandBound(comp, t) > x.supplyBound(period, budget, t)) {
                    return false;
                }
            }
            return true;
        }
        for (int task = 0; task < x.getComponent(comp, PeriodicResource.C_TASKS); task++) {
            boolean met = false;
            for (int t = 1; t <= x.getTask(comp, task, PeriodicResource.T_PERIOD); t++) {
                met |= x.requestBound(comp, task, t) <= x.supplyBound(period, budget, t);
            }
            if (!met) {
                return false;
            }
        }
        return true;
    }

    private static void restDoesNotChange() {
        Check.sentence("Policy and tasks of every component, and the interfaces of other components, do not change.");
        for (Stages.Stage stage : Stages.ALL) {
            for (int comp = 0; comp < 4; comp++) {
                for (int period : new int[] {1, 7, 32}) {
                    PeriodicResource x = stage.make();
                    int[][] want = Check.allSettings(x);
                    int answer = x.computeInterface(comp, period);
                    want[comp][PeriodicResource.C_PERIOD] = answer < 0 ? -1 : period;
                    want[comp][PeriodicResource.C_BUDGET] = answer < 0 ? -1 : answer;
                    Check.dueSettings(name(comp, period) + " (" + stage.name + ")", x, want);
                }
            }
        }
    }
}
