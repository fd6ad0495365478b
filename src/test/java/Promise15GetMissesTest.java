public final class Promise15GetMissesTest {
    public static void main(String[] args) {
        pure();
        refusedComponent();
        answersTheMisses();
        Check.finish();
    }

    private static void pure() {
        Check.sentence("`getMisses(comp)` is pure.");
        for (Stages.Stage stage : Stages.ALL) {
            for (int comp = 0; comp < 4; comp++) {
                int c = comp;
                // Of the tasks (3,2) and (4,1), never served, five jobs end by 9.
                int want = stage.name.equals("missing") && c == 0 ? 5 : 0;
                Stages.changesNothing(stage, "getMisses(" + c + ")", x -> x.getMisses(c), want);
            }
        }
    }

    private static void refusedComponent() {
        Check.sentence("If comp is not in 0..3 it answers REFUSED.", "getMisses");
        for (int comp : Check.outside(0, 3)) {
            Stages.changesNothing("getMisses(" + comp + ")", x -> x.getMisses(comp), PeriodicResource.REFUSED);
        }
    }

    private static void answersTheMisses() {
        Check.sentence("Otherwise it answers the component's misses.");
        for (int comp = 0; comp < 4; comp++) {
            PeriodicResource x = new PeriodicResource(64);
            x.addTask(comp, 3, 2);
            x.addTask(comp, 4, 1);
            if (!Stages.forceAdmitted(x)) {
                Check.skip(Stages.NO_FORCE);
                return;
            }
            int[] misses = {0, 0, 1, 2, 2, 3, 3, 4, 5, 5, 5, 7, 7};
            for (int i = 0; i < misses.length; i++) {
                x.run(1);
                for (int other = 0; other < 4; other++) {
                    Check.due("getMisses(" + other + ") at " + (i + 1), x.getMisses(other),
                            other == comp ? misses[i] : 0);
                }
            }
            x.run(1000);
            Check.due("getMisses(" + comp + ") at the horizon", x.getMisses(comp), 64 / 3 + 64 / 4);
            x.admit();
            Check.due("getMisses(" + comp + ") after admit()", x.getMisses(comp), 0);
        }
    }
}
