public final class Promise01ConstructionTest {
    public static void main(String[] args) {
        clamps();
        belowBecomes64();
        aboveBecomes256();
        withinIsKept();
        fixedForLife();
        initialComponents();
        initialSimulation();
        Check.finish();
    }

    /** The horizon as it is read and as it bounds a run. */
    private static void dueHorizon(int wanted, int kept) {
        PeriodicResource x = new PeriodicResource(wanted);
        Check.due("getHorizon() for " + wanted, x.getHorizon(), kept);
        x.admit();
        Check.due("run(MAX) for " + wanted, x.run(Check.MAX), kept);
    }

    private static void clamps() {
        Check.sentence("`PeriodicResource(int horizon)` clamps horizon into MIN_HORIZON..MAX_HORIZON");
        dueHorizon(PeriodicResource.MIN_HORIZON - 1, PeriodicResource.MIN_HORIZON);
        dueHorizon(PeriodicResource.MIN_HORIZON, PeriodicResource.MIN_HORIZON);
        dueHorizon(PeriodicResource.MIN_HORIZON + 1, PeriodicResource.MIN_HORIZON + 1);
        dueHorizon(PeriodicResource.MAX_HORIZON - 1, PeriodicResource.MAX_HORIZON - 1);
        dueHorizon(PeriodicResource.MAX_HORIZON, PeriodicResource.MAX_HORIZON);
        dueHorizon(PeriodicResource.MAX_HORIZON + 1, PeriodicResource.MAX_HORIZON);
    }

    private static void belowBecomes64() {
        Check.sentence("any value below 64 (including zero and negative values) becomes 64");
        for (int wanted = -300; wanted < 64; wanted++) {
            dueHorizon(wanted, 64);
        }
        for (int wanted : new int[] {Check.MIN, Check.MIN + 100, -65536 + 100, -65536, -1000}) {
            dueHorizon(wanted, 64);
        }
    }

    private static void aboveBecomes256() {
        Check.sentence("any value above 256 becomes 256");
        for (int wanted = 257; wanted < 600; wanted++) {
            dueHorizon(wanted, 256);
        }
        for (int wanted : new int[] {65536, 65536 + 100, 100000, 1 << 30, Check.MAX - 1, Check.MAX}) {
            dueHorizon(wanted, 256);
        }
    }

    private static void withinIsKept() {
        Check.sentence("values in 64..256 are kept");
        for (int wanted = 64; wanted <= 256; wanted++) {
            dueHorizon(wanted, wanted);
        }
    }

    private static void fixedForLife() {
        Check.sentence("The result is fixed as H for the life of the object.");
        for (int wanted : new int[] {0, 64, 65, 255, 256, 1000}) {
            PeriodicResource x = new PeriodicResource(wanted);
            int kept = x.getHorizon();
            x.admit();
            x.run(1000);
            Check.due("getHorizon() at the horizon", x.getHorizon(), kept);
            new PeriodicResource(kept == 100 ? 101 : 100);
            Check.due("getHorizon() after another object", x.getHorizon(), kept);
            x.addTask(0, 64, 1);
            x.computeInterface(0, 32);
            x.admit();
            Check.due("run(MAX) of the second life", x.run(Check.MAX), kept);
        }
    }

    private static void initialComponents() {
        Check.sentence("Initial state: every component has policy EDF, no tasks and no interface");
        for (int wanted : new int[] {Check.MIN, 64, 100, 256, Check.MAX}) {
            PeriodicResource x = new PeriodicResource(wanted);
            for (int comp = 0; comp < 4; comp++) {
                Check.due("policy", x.getComponent(comp, PeriodicResource.C_POLICY), PeriodicResource.EDF);
                Check.due("tasks", x.getComponent(comp, PeriodicResource.C_TASKS), 0);
                Check.due("period", x.getComponent(comp, PeriodicResource.C_PERIOD), -1);
                Check.due("budget", x.getComponent(comp, PeriodicResource.C_BUDGET), -1);
                Check.due("getTask(" + comp + ", 0, 0)", x.getTask(comp, 0, 0), -1);
            }
        }
        int[][] untouched = Check.allSettings(new PeriodicResource(100));
        Stages.full();
        Check.dueSettings("full object beside", new PeriodicResource(100), untouched);
    }

    private static void initialSimulation() {
        Check.sentence("admitted = false; RESET done, so now = 0, every component has misses = 0 and left = 0.");
        for (int wanted : new int[] {Check.MIN, 64, 100, 256, Check.MAX}) {
            PeriodicResource x = new PeriodicResource(wanted);
            Check.due("isAdmitted()", x.isAdmitted(), false);
            Check.due("run(1)", x.run(1), -1);
            Check.due("getTime()", x.getTime(), 0);
            for (int comp = 0; comp < 4; comp++) {
                Check.due("getMisses(" + comp + ")", x.getMisses(comp), 0);
                Check.due("getBudgetLeft(" + comp + ")", x.getBudgetLeft(comp), 0);
            }
        }
    }
}
