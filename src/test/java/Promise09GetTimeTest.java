public final class Promise09GetTimeTest {
    public static void main(String[] args) {
        answersNow();
        neverRefused();
        Check.finish();
    }

    private static void answersNow() {
        Check.sentence("`getTime()` answers now (0..H).");
        for (int horizon : new int[] {64, 100, 256}) {
            PeriodicResource x = new PeriodicResource(horizon);
            Check.due("getTime() of a new object", x.getTime(), 0);
            x.admit();
            Check.due("getTime() when admitted", x.getTime(), 0);
            for (int now = 1; now <= horizon; now++) {
                x.run(1);
                Check.due("getTime()", x.getTime(), now);
            }
            x.run(1);
            Check.due("getTime() at the horizon", x.getTime(), horizon);
            x.admit();
            Check.due("getTime() after admit()", x.getTime(), 0);
        }
    }

    private static void neverRefused() {
        Check.sentence("It is never refused and changes nothing.", "getTime");
        for (Stages.Stage stage : Stages.ALL) {
            int want = switch (stage.name) {
                case "running", "missing" -> 9;
                case "at the horizon" -> 100;
                case "full" -> 10;
                default -> 0;
            };
            Stages.changesNothing(stage, "getTime()", PeriodicResource::getTime, want);
        }
    }
}
