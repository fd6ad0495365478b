public final class Promise16GetBudgetLeftTest {
    public static void main(String[] args) {
        pure();
        refusedComponent();
        answersTheBudgetLeft();
        withoutInterface();
        Check.finish();
    }

    private static void pure() {
        Check.sentence("`getBudgetLeft(comp)` is pure.");
        int[] due = {2, 1, 0, 0};
        for (Stages.Stage stage : Stages.ALL) {
            if (stage.name.equals("running")) {
                for (int comp = 0; comp < 4; comp++) {
                    int c = comp;
                    Stages.changesNothing(stage, "getBudgetLeft(" + c + ")", x -> x.getBudgetLeft(c), due[c]);
                }
            }
        }
    }

    private static void refusedComponent() {
        Check.sentence("If comp is not in 0..3 it answers REFUSED.", "getBudgetLeft");
        for (int comp : Check.outside(0, 3)) {
            Stages.changesNothing("getBudgetLeft(" + comp + ")",
                    x -> x.getBudgetLeft(comp), PeriodicResource.REFUSED);
        }
    }

    private static void answersTheBudgetLeft() {
        Check.sentence("Otherwise it answers the component's left");
        for (int comp = 0; comp < 4; comp++) {
            // Alone with (8,5): five units from each period's start, then none.
            PeriodicResource x = new PeriodicResource(64);
            Stages.addTaskFor(x, comp, 8, 5);
            Check.due("computeInterface(" + comp + ", 8)", x.computeInterface(comp, 8), 5);
            Check.due("before admit()", x.getBudgetLeft(comp), 5);
            x.admit();
            for (int now = 0; now <= 64; now++) {
                Check.due("left at " + now, x.getBudgetLeft(comp), Math.max(0, 5 - now % 8));
                x.run(1);
            }
            Check.due("left at the horizon", x.getBudgetLeft(comp), 5);
        }
    }

    private static void withoutInterface() {
        Check.sentence("(0 for a component without an interface)");
        for (int comp = 0; comp < 4; comp++) {
            Check.due("new", new PeriodicResource(64).getBudgetLeft(comp), 0);
            PeriodicResource x = Stages.full();
            x.setPolicy(comp, PeriodicResource.EDF);
            Check.due("after setPolicy", x.getBudgetLeft(comp), 0);
            x.computeInterface(comp, 32);
            Check.due("with an interface again", x.getBudgetLeft(comp), 8);
            x.removeLastTask(comp);
            Check.due("after removeLastTask", x.getBudgetLeft(comp), 0);
            x.computeInterface(comp, 32);
            x.addTask(comp, 64, 1);
            Check.due("after addTask", x.getBudgetLeft(comp), 0);
            x.removeLastTask(comp);
            x.addTask(comp, 1, 1);
            x.computeInterface(comp, 32);
            Check.due("after NO_BUDGET", x.getBudgetLeft(comp), 0);
        }
        // Admitted and running, with neither tasks nor interface in 2.
        PeriodicResource y = Stages.changed();
        y.admit();
        for (int now = 0; now < 40; now++) {
            Check.due("left of 2 at " + now, y.getBudgetLeft(2), 0);
            y.run(1);
        }
    }
}
