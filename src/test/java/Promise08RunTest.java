public final class Promise08RunTest {
    public static void main(String[] args) {
        refusedWhenNotAdmitted();
        refusedBelowOne();
        testsInOrder();
        asManyUnitsAsFit();
        oneAfterAnother();
        atTheHorizon();
        timeNeverExceedsTheHorizon();
        settingsDoNotChange();
        Check.finish();
    }

    private static void refuse(Stages.Stage stage, int steps) {
        Stages.changesNothing(stage, "run(" + steps + ")", x -> x.run(steps), PeriodicResource.REFUSED);
    }

    private static void refusedWhenNotAdmitted() {
        Check.sentence("If either fails it answers REFUSED and nothing changes.", "admitted is true");
        for (Stages.Stage stage : Stages.ALL) {
            if (!stage.make().isAdmitted()) {
                for (int steps : new int[] {1, 2, 64, 100, 256, 1000, Check.MAX}) {
                    refuse(stage, steps);
                }
            }
        }
        // Each accepted change refuses the next run, until it is admitted again.
        for (int change = 0; change < 4; change++) {
            PeriodicResource x = Stages.running();
            switch (change) {
                case 0 -> x.setPolicy(2, PeriodicResource.EDF);
                case 1 -> x.computeInterface(2, 5);
                case 2 -> x.addTask(2, 64, 1);
                default -> x.removeLastTask(0);
            }
            Check.due("run(1) after change " + change, x.run(1), -1);
            Check.due("getTime()", x.getTime(), 0);
        }
    }

    private static void refusedBelowOne() {
        Check.sentence("If either fails it answers REFUSED and nothing changes.", "steps >= 1");
        for (Stages.Stage stage : Stages.ALL) {
            if (stage.make().isAdmitted()) {
                for (int steps : new int[] {Check.MIN, Check.MIN + 1, -65535, -256, -2, -1, 0}) {
                    refuse(stage, steps);
                }
            }
        }
    }

    private static void testsInOrder() {
        Check.sentence("`run(steps)` tests in order: admitted is true; steps >= 1.");
        for (Stages.Stage stage : Stages.ALL) {
            for (int steps : new int[] {Check.MIN, -1, 0}) {
                refuse(stage, steps);
            }
            PeriodicResource x = stage.make();
            int want = !x.isAdmitted() ? -1 : x.getTime() < 100 ? 1 : 0;
            Check.due("run(1) (" + stage.name + ")", x.run(1), want);
        }
    }

    private static void asManyUnitsAsFit() {
        Check.sentence("it simulates n = min(steps, H - now) units");
        for (int horizon : new int[] {64, 65, 100, 255, 256}) {
            for (int before : new int[] {0, 1, 9, horizon - 1}) {
                int rest = horizon - before;
                int[] wanted = {1, rest - 1, rest, rest + 1, 256, 257, 65536 + 1, Check.MAX - 1, Check.MAX};
                for (int steps : wanted) {
                    if (steps >= 1) {
                        dueUnits(horizon, before, steps);
                    }
                }
            }
        }
    }

    private static void dueUnits(int horizon, int before, int steps) {
        PeriodicResource x = new PeriodicResource(horizon);
        x.admit();
        if (before > 0) {
            Check.due("run(" + before + ")", x.run(before), before);
        }
        int want = Math.min(steps, horizon - before);
        Check.due("run(" + steps + ") at " + before + " of " + horizon, x.run(steps), want);
        Check.due("getTime()", x.getTime(), before + want);
    }

    private static void oneAfterAnother() {
        Check.sentence("units one after another, exactly as defined in One simulated unit, and answers n");
        for (int part : new int[] {1, 2, 3, 7, 16, 33, 99}) {
            PeriodicResource whole = Stages.admitted();
            PeriodicResource parts = Stages.admitted();
            int done = 0;
            while (done < 100) {
                done += parts.run(part);
                whole.admit();
                Check.due("run(" + done + ")", whole.run(done), done);
                Check.due("state at " + done + " by " + part, Check.state(whole), Check.state(parts));
            }
        }
        // By hand, at 100: component 0 has had 3 of every 4 units, its jobs all their work.
        PeriodicResource x = Stages.admitted();
        x.run(1000);
        Check.due("exec of 0/0", x.getTask(0, 0, PeriodicResource.T_EXECUTED), 12 * 2 + 2);
        Check.due("exec of 0/1", x.getTask(0, 1, PeriodicResource.T_EXECUTED), 8 * 3 + 1);
        Check.due("exec of 1/0", x.getTask(1, 0, PeriodicResource.T_EXECUTED), 4);
        Check.due("exec of 3/0", x.getTask(3, 0, PeriodicResource.T_EXECUTED), 2);
    }

    private static void atTheHorizon() {
        Check.sentence("When now == H the answer is 0 and nothing changes.");
        for (Stages.Stage stage : Stages.ALL) {
            if (stage.name.equals("at the horizon")) {
                for (int steps : new int[] {1, 2, 100, 256, Check.MAX}) {
                    Stages.changesNothing(stage, "run(" + steps + ")", x -> x.run(steps), 0);
                }
            }
        }
        for (int horizon : new int[] {64, 65, 128, 255, 256}) {
            // Every task is released, and every budget filled, at the horizon itself.
            PeriodicResource x = Stages.withTasks(horizon, 3, PeriodicResource.EDF, 1, 1);
            x.computeInterface(3, 1);
            x.admit();
            Check.due("run(horizon)", x.run(horizon), horizon);
            int[] before = Check.state(x);
            Check.due("run(1) at the horizon", x.run(1), 0);
            Check.due("run(MAX) at the horizon", x.run(Check.MAX), 0);
            Check.due("state at the horizon", Check.state(x), before);
        }
    }

    private static void timeNeverExceedsTheHorizon() {
        Check.sentence("After the call now equals its former value plus n, so now never exceeds H.");
        for (int horizon : new int[] {64, 100, 256}) {
            for (int steps : new int[] {1, 3, 63, 64, 65, 200, Check.MAX}) {
                PeriodicResource x = new PeriodicResource(horizon);
                x.admit();
                int now = 0;
                for (int call = 0; call < 300; call++) {
                    now += x.run(steps);
                    Check.due("getTime() after run(" + steps + ")", x.getTime(), now);
                    Check.due("getTime() stays within H", x.getTime() <= horizon, true);
                }
                Check.due("getTime() in the end", x.getTime(), horizon);
            }
        }
    }

    private static void settingsDoNotChange() {
        Check.sentence("run does not change admitted, policies, tasks or interfaces.");
        for (Stages.Stage stage : Stages.ALL) {
            PeriodicResource x = stage.make();
            boolean admitted = x.isAdmitted();
            int[][] want = Check.allSettings(x);
            for (int steps : new int[] {1, 1, 5, 30, 0, 1000, 1}) {
                x.run(steps);
                Check.due("isAdmitted() (" + stage.name + ")", x.isAdmitted(), admitted);
                Check.dueSettings("run(" + steps + ") (" + stage.name + ")", x, want);
            }
        }
    }
}
