public final class Promise07AdmitTest {
    public static void main(String[] args) {
        neverRefused();
        tasksNeedAnInterface();
        bandwidthAtMostOne();
        serversWithoutTasksCount();
        comparedExactly();
        otherwiseTrue();
        resetsAndAnswers();
        resetsWhenFalse();
        settingsDoNotChange();
        emptyIsAdmitted();
        isAdmittedReads();
        noMisses();
        Check.finish();
    }

    private static void neverRefused() {
        Check.sentence("`admit()` is never refused.");
        for (Stages.Stage stage : Stages.ALL) {
            boolean want = !stage.name.equals("too much") && !stage.name.equals("missing");
            PeriodicResource x = stage.make();
            Check.due("admit() (" + stage.name + ")", x.admit(), want);
            Check.due("isAdmitted() (" + stage.name + ")", x.isAdmitted(), want);
            Check.due("admit() again (" + stage.name + ")", x.admit(), want);
        }
    }

    private static void tasksNeedAnInterface() {
        Check.sentence("admitted becomes false if some component with at least one task has no interface");
        for (int comp = 0; comp < 4; comp++) {
            PeriodicResource x = Stages.admitted();
            x.addTask(comp, 64, 1);
            Check.due("admit() without interface in " + comp, x.admit(), false);
            Check.due("isAdmitted()", x.isAdmitted(), false);
            Check.due("run(1)", x.run(1), -1);
            // One task alone, and nothing else anywhere.
            PeriodicResource y = new PeriodicResource(64);
            y.addTask(comp, 64, 1);
            Check.due("admit() with one task in " + comp, y.admit(), false);
            y.removeLastTask(comp);
            Check.due("admit() with that task removed", y.admit(), true);
            // The interface goes with the policy, and with one of two tasks.
            PeriodicResource z = Stages.full();
            z.setPolicy(comp, PeriodicResource.EDF);
            Check.due("admit() after setPolicy(" + comp + ")", z.admit(), false);
            z = Stages.full();
            z.removeLastTask(comp);
            Check.due("admit() after removeLastTask(" + comp + ")", z.admit(), false);
        }
        PeriodicResource none = new PeriodicResource(64);
        none.addTask(0, 2, 2);
        none.addTask(0, 2, 2);
        none.computeInterface(0, 1);
        Check.due("admit() after NO_BUDGET", none.admit(), false);
    }

    private static void bandwidthAtMostOne() {
        Check.sentence("if the sum of Q/P over all components that have an interface "
                + "(including those with no tasks) is greater than 1");
        dueAdmit(true, 1, 1);
        dueAdmit(false, 1, 1, 32, 1);
        dueAdmit(true, 2, 1, 2, 1);
        dueAdmit(false, 2, 1, 2, 1, 32, 1);
        dueAdmit(true, 4, 1, 4, 1, 4, 1, 4, 1);
        dueAdmit(false, 4, 1, 4, 1, 4, 1, 3, 1);
        dueAdmit(false, 31, 31, 1, 1, 1, 1, 1, 1);
        dueAdmit(false, 32, 32, 32, 32, 32, 32, 32, 32);
        dueAdmit(false, 32, 31, 31, 30, 30, 29, 29, 28);
        dueAdmit(true, 32, 1, 31, 1, 30, 1, 29, 1);
        // Every place counts: one full component and one more unit in another.
        for (int full = 0; full < 4; full++) {
            for (int other = 0; other < 4; other++) {
                if (full != other) {
                    PeriodicResource x = new PeriodicResource(64);
                    Stages.addTaskFor(x, full, 32, 32);
                    x.computeInterface(full, 32);
                    Check.due("admit() of one full", x.admit(), true);
                    Stages.addTaskFor(x, other, 32, 1);
                    x.computeInterface(other, 32);
                    Check.due("admit() of " + full + " full and a unit in " + other, x.admit(), false);
                }
            }
        }
    }

    private static void dueAdmit(boolean want, int... pairs) {
        StringBuilder sum = new StringBuilder();
        for (int i = 0; i < pairs.length; i += 2) {
            sum.append(i == 0 ? "" : " + ").append(pairs[i + 1]).append("/").append(pairs[i]);
        }
        Check.due("admit() of " + sum, Stages.withServers(pairs).admit(), want);
    }

    private static void serversWithoutTasksCount() {
        Check.sentence("(including those with no tasks)");
        // They have budget 0, so they add nothing: neither beside a full one nor alone.
        PeriodicResource x = Stages.withServers(1, 1);
        for (int comp = 1; comp < 4; comp++) {
            Check.due("computeInterface(" + comp + ", 1)", x.computeInterface(comp, 1), 0);
        }
        Check.due("admit() of 1/1 + 0/1 + 0/1 + 0/1", x.admit(), true);
        PeriodicResource y = Stages.withServers(2, 1, 32, 17);
        y.computeInterface(2, 32);
        y.computeInterface(3, 32);
        Check.due("admit() of 1/2 + 17/32 + 0/32 + 0/32", y.admit(), false);
        PeriodicResource z = new PeriodicResource(64);
        z.computeInterface(0, 1);
        z.computeInterface(1, 2);
        z.computeInterface(2, 31);
        z.computeInterface(3, 32);
        Check.due("admit() of 0/1 + 0/2 + 0/31 + 0/32", z.admit(), true);
    }

    private static void comparedExactly() {
        Check.sentence("compared exactly as rationals");
        dueAdmit(true, 3, 1, 3, 1, 3, 1);
        dueAdmit(false, 3, 1, 3, 1, 3, 1, 32, 1);
        dueAdmit(true, 7, 1, 7, 2, 7, 4);
        dueAdmit(true, 6, 1, 3, 1, 2, 1);
        // One exactly, though a sum of doubles, or of floats in the last row, comes out above it.
        dueAdmit(true, 4, 1, 24, 7, 24, 7, 6, 1);
        dueAdmit(true, 30, 6, 30, 23, 30, 1);
        dueAdmit(true, 15, 4, 30, 16, 5, 1);
        // One and one 719200th.
        dueAdmit(false, 32, 3, 31, 13, 29, 6, 25, 7);
        dueAdmit(true, 32, 3, 31, 13, 29, 6, 25, 6);
        // Beside each of these, the greatest budget that fits and the next one.
        for (int[] first : new int[][] {{2, 1}, {3, 2}, {7, 3}, {11, 10}, {16, 9}, {29, 28}, {31, 1}, {32, 31}}) {
            for (int period = 1; period <= 32; period++) {
                int fits = period * (first[0] - first[1]) / first[0];
                if (fits > 0) {
                    dueAdmit(true, first[0], first[1], period, fits);
                }
                dueAdmit(false, first[0], first[1], period, fits + 1);
            }
        }
    }

    private static void otherwiseTrue() {
        Check.sentence("otherwise admitted becomes true");
        PeriodicResource x = Stages.changed();
        Check.due("isAdmitted()", x.isAdmitted(), false);
        Check.due("admit() with neither tasks nor interface in 2", x.admit(), true);
        Check.due("isAdmitted()", x.isAdmitted(), true);
        Check.due("run(1)", x.run(1), 1);
        // From false to true, when the cause is gone.
        PeriodicResource y = Stages.tooMuch();
        Check.due("isAdmitted()", y.isAdmitted(), false);
        y.removeLastTask(3);
        Check.due("admit() with one component emptied", y.admit(), true);
        Check.due("isAdmitted()", y.isAdmitted(), true);
    }

    private static void resetsAndAnswers() {
        Check.sentence("Then it RESETs, and answers the new value of admitted.");
        for (Stages.Stage stage : Stages.ALL) {
            PeriodicResource x = stage.make();
            boolean answer = x.admit();
            Check.due("isAdmitted() (" + stage.name + ")", x.isAdmitted(), answer);
            Check.dueReset("admit() (" + stage.name + ")", x);
        }
        // Admitted again at the horizon: the whole run once more.
        PeriodicResource y = Stages.atTheHorizon();
        int[] end = Check.state(y);
        Check.due("admit() at the horizon", y.admit(), true);
        Check.due("run(100)", y.run(100), 100);
        Check.due("state at the second end", Check.state(y), end);
    }

    private static void resetsWhenFalse() {
        Check.sentence("Then it RESETs, and answers the new value of admitted.", "false");
        PeriodicResource x = Stages.withServers(2, 1, 2, 1, 32, 1);
        if (!Stages.forceAdmitted(x)) {
            Check.skip(Stages.NO_FORCE);
            return;
        }
        x.run(5);
        Check.due("admit() of too much", x.admit(), false);
        Check.dueTakenBack("admit() of too much", x);
    }

    private static void settingsDoNotChange() {
        Check.sentence("Policies, tasks and interfaces do not change.");
        for (Stages.Stage stage : Stages.ALL) {
            PeriodicResource x = stage.make();
            int[][] want = Check.allSettings(x);
            x.admit();
            Check.dueSettings("admit() (" + stage.name + ")", x, want);
        }
    }

    private static void emptyIsAdmitted() {
        Check.sentence("With no tasks and no interfaces anywhere, admit answers true.");
        PeriodicResource x = new PeriodicResource(64);
        Check.due("admit()", x.admit(), true);
        Check.due("isAdmitted()", x.isAdmitted(), true);
        Check.due("admit() again", x.admit(), true);
        // Emptied, whatever was there before.
        PeriodicResource y = Stages.full();
        for (int i = 0; i < 32; i++) {
            y.removeLastTask(i % 4);
        }
        Check.due("admit() of an emptied object", y.admit(), true);
    }

    private static void isAdmittedReads() {
        Check.sentence("`isAdmitted()` answers admitted and changes nothing.");
        for (Stages.Stage stage : Stages.ALL) {
            boolean want = !stage.name.equals("new") && !stage.name.equals("changed")
                    && !stage.name.equals("too much");
            Stages.changesNothing(stage, "isAdmitted()", x -> x.isAdmitted() ? 1 : 0, want ? 1 : 0);
        }
    }

    private static void noMisses() {
        Check.sentence("in every state reached in which isAdmitted() is true, getMisses(c) == 0 for every c in 0..3");
        // Alone on the whole processor: utilisation one, jobs that end at their very deadline,
        // and an overload that shows only beyond the greatest horizon.
        dueNoMiss(Stages.withTasks(256, 2, PeriodicResource.EDF, 1, 1), 1);
        dueNoMiss(Stages.withTasks(256, 2, PeriodicResource.EDF, 64, 64), 1);
        dueNoMiss(Stages.withTasks(256, 2, PeriodicResource.EDF, 6, 3, 4, 2), 1);
        dueNoMiss(Stages.withTasks(256, 2, PeriodicResource.FP, 2, 1, 4, 1, 8, 2), 1);
        dueNoMiss(Stages.withTasks(256, 2, PeriodicResource.EDF, 6, 1, 43, 36), 1);
        dueNoMiss(Stages.withTasks(256, 2, PeriodicResource.FP, 4, 3, 5, 1), 1);
        // Bandwidth one exactly, by four servers with the least budgets.
        PeriodicResource x = Stages.withServers(4, 1, 24, 7, 24, 7, 6, 1);
        Check.due("admit()", x.admit(), true);
        dueNoMissToTheEnd(x);
        dueNoMissToTheEnd(Stages.admitted());
        dueNoMissToTheEnd(Stages.full());
    }

    private static void dueNoMiss(PeriodicResource x, int budget) {
        Check.due("computeInterface(2, 1)", x.computeInterface(2, 1), budget);
        Check.due("admit()", x.admit(), true);
        dueNoMissToTheEnd(x);
    }

    private static void dueNoMissToTheEnd(PeriodicResource x) {
        int atMost = 256;
        while (x.run(1) == 1 && atMost > 0) {
            atMost--;
            for (int comp = 0; comp < 4; comp++) {
                Check.due("getMisses(" + comp + ") at " + x.getTime(), x.getMisses(comp), 0);
            }
        }
        for (int comp = 0; comp < 4; comp++) {
            dueFinishedJobs(x, comp);
        }
    }

    // Every job whose deadline lies within the horizon has had all its work.
    private static void dueFinishedJobs(PeriodicResource x, int comp) {
        for (int task = 0; task < x.getComponent(comp, PeriodicResource.C_TASKS); task++) {
            int jobs = x.getHorizon() / x.getTask(comp, task, PeriodicResource.T_PERIOD);
            int least = jobs * x.getTask(comp, task, PeriodicResource.T_WCET);
            int executed = x.getTask(comp, task, PeriodicResource.T_EXECUTED);
            Check.due("executed work of " + comp + "/" + task + " reaches " + least, executed >= least, true);
        }
    }
}
