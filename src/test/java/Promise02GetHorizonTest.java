public final class Promise02GetHorizonTest {
    public static void main(String[] args) {
        answersTheHorizon();
        neverRefused();
        neverChanges();
        Check.finish();
    }

    private static void answersTheHorizon() {
        Check.sentence("`getHorizon()` answers H.");
        for (int horizon : new int[] {64, 65, 100, 255, 256}) {
            Check.due("getHorizon()", new PeriodicResource(horizon).getHorizon(), horizon);
        }
    }

    private static void neverRefused() {
        Check.sentence("It is never refused and changes nothing.", "getHorizon");
        Stages.changesNothing("getHorizon()", PeriodicResource::getHorizon, 100);
    }

    private static void neverChanges() {
        Check.sentence("H never changes after construction.");
        PeriodicResource x = Stages.running();
        x.run(1000);
        Check.due("getHorizon() at the horizon", x.getHorizon(), 100);
        x.setPolicy(0, PeriodicResource.FP);
        Check.due("getHorizon() after setPolicy", x.getHorizon(), 100);
        x.addTask(0, 64, 64);
        Check.due("getHorizon() after addTask", x.getHorizon(), 100);
        x.removeLastTask(0);
        Check.due("getHorizon() after removeLastTask", x.getHorizon(), 100);
        x.computeInterface(0, 32);
        Check.due("getHorizon() after computeInterface", x.getHorizon(), 100);
        x.admit();
        Check.due("getHorizon() after admit", x.getHorizon(), 100);
    }
}
