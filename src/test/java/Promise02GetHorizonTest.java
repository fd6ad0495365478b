public final class Promise02GetHorizonTest {
    public static void main(String[] args) {
        PeriodicResource x = Check.runningObject();
        int[] before = Check.state(x);
        Check.due("getHorizon() amid a run", x.getHorizon(), 100);
        Check.due("state after getHorizon()", Check.state(x), before);
        x.run(1000);
        Check.due("getHorizon() at the horizon", x.getHorizon(), 100);
        x.addTask(0, 64, 64);
        x.removeLastTask(0);
        x.setPolicy(0, PeriodicResource.FP);
        x.computeInterface(0, 32);
        x.admit();
        Check.due("getHorizon() after changes", x.getHorizon(), 100);
        Check.finish();
    }
}
