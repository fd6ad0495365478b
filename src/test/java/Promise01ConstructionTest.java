public final class Promise01ConstructionTest {
    public static void main(String[] args) {
        int[] wanted = {Check.MIN, -1, 0, 1, 63, 64, 65, 160, 255, 256, 257, Check.MAX};
        int[] kept = {64, 64, 64, 64, 64, 64, 65, 160, 255, 256, 256, 256};
        for (int i = 0; i < wanted.length; i++) {
            PeriodicResource x = new PeriodicResource(wanted[i]);
            Check.due("getHorizon() for " + wanted[i], x.getHorizon(), kept[i]);
            dueInitial(x);
        }
        objectsShareNothing();
        Check.finish();
    }

    private static void dueInitial(PeriodicResource x) {
        Check.due("isAdmitted()", x.isAdmitted(), false);
        Check.due("getTime()", x.getTime(), 0);
        for (int comp = 0; comp < 4; comp++) {
            Check.due("policy", x.getComponent(comp, PeriodicResource.C_POLICY), PeriodicResource.EDF);
            Check.due("tasks", x.getComponent(comp, PeriodicResource.C_TASKS), 0);
            Check.due("period", x.getComponent(comp, PeriodicResource.C_PERIOD), -1);
            Check.due("budget", x.getComponent(comp, PeriodicResource.C_BUDGET), -1);
            Check.due("getMisses", x.getMisses(comp), 0);
            Check.due("getBudgetLeft", x.getBudgetLeft(comp), 0);
        }
    }

    private static void objectsShareNothing() {
        PeriodicResource untouched = new PeriodicResource(100);
        Check.runningObject();
        dueInitial(untouched);
        dueInitial(new PeriodicResource(100));
    }
}
