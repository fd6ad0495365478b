public final class Promise15GetMissesTest {
    public static void main(String[] args) {
        PeriodicResource x = Check.runningObject();
        int[] before = Check.state(x);
        for (int comp : new int[] {Check.MIN, -1, 4, 5, Check.MAX}) {
            Check.due("getMisses(" + comp + ")", x.getMisses(comp), -1);
        }
        for (int comp = 0; comp < 4; comp++) {
            Check.due("getMisses(" + comp + ")", x.getMisses(comp), 0);
        }
        Check.due("state after getMisses", Check.state(x), before);
        x.run(1000);
        for (int comp = 0; comp < 4; comp++) {
            Check.due("getMisses(" + comp + ") at the horizon", x.getMisses(comp), 0);
        }
        missesAreCounted();
        Check.finish();
    }

    private static void missesAreCounted() {
        // Component 0 has no interface and is never served; 1 has the whole processor.
        PeriodicResource x = new PeriodicResource(64);
        x.addTask(0, 3, 2);
        x.addTask(0, 4, 1);
        x.addTask(1, 2, 2);
        Check.due("computeInterface(1, 1)", x.computeInterface(1, 1), 1);
        Check.forceAdmitted(x);
        int[] misses = {0, 0, 1, 2, 2, 3, 3, 4, 5, 5, 5, 7, 7};
        for (int i = 0; i < misses.length; i++) {
            Check.due("run(1)", x.run(1), 1);
            Check.due("getMisses(0) at " + (i + 1), x.getMisses(0), misses[i]);
            Check.due("getMisses(1) at " + (i + 1), x.getMisses(1), 0);
            // The unfinished job is dropped: the next one starts with its own work alone.
            Check.due("rem of 0/0", x.getTask(0, 0, PeriodicResource.T_REMAINING), 2);
        }
        x.run(1000);
        Check.due("getMisses(0) at the horizon", x.getMisses(0), 64 / 3 + 64 / 4);
        x.admit();
        Check.due("getMisses(0) after admit()", x.getMisses(0), 0);
    }
}
