import java.util.List;
import java.util.function.Consumer;

/** The section 'Simulation state and RESET'. */
public final class ResetTest {
    /** A call that RESETs, with the component that it changes (-1 for none). */
    private static final class Change {
        final String name;
        final int comp;
        final Consumer<PeriodicResource> call;

        Change(String name, int comp, Consumer<PeriodicResource> call) {
            this.name = name;
            this.comp = comp;
            this.call = call;
        }
    }

    private static final List<Change> CHANGES = List.of(
            new Change("setPolicy(0, EDF)", 0, x -> x.setPolicy(0, PeriodicResource.EDF)),
            new Change("setPolicy(3, FP)", 3, x -> x.setPolicy(3, PeriodicResource.FP)),
            new Change("addTask(0, 1, 1)", 0, x -> x.addTask(0, 1, 1)),
            new Change("addTask(2, 64, 64)", 2, x -> x.addTask(2, 64, 64)),
            new Change("removeLastTask(0)", 0, x -> x.removeLastTask(0)),
            new Change("removeLastTask(1)", 1, x -> x.removeLastTask(1)),
            new Change("computeInterface(0, 4)", 0, x -> x.computeInterface(0, 4)),
            new Change("computeInterface(3, 32)", 3, x -> x.computeInterface(3, 32)));

    public static void main(String[] args) {
        stateRanges();
        timeToZero();
        workToTheStart();
        missesToZero();
        budgetsToFull();
        instantZeroIsProcessed();
        acceptedCallsTakeAdmissionBack();
        resetsAfterItsOwnChange();
        refusedCallsChangeNothing();
        Check.finish();
    }

    private static void stateRanges() {
        Check.sentence("The simulation state is: now (0..H); the flag admitted; per task rem (remaining work of "
                + "its current job) and exec (units executed); per component misses and left (budget left in its "
                + "current server period).");
        PeriodicResource x = Stages.admitted();
        for (int now = 0; now <= 110; now++) {
            Check.due("getTime()", x.getTime(), Math.min(now, 100));
            for (int comp = 0; comp < 4; comp++) {
                int left = x.getBudgetLeft(comp);
                int most = x.getComponent(comp, PeriodicResource.C_BUDGET);
                Check.due("left in 0..Q", left >= 0 && left <= most, true);
                for (int task = 0; task < x.getComponent(comp, PeriodicResource.C_TASKS); task++) {
                    int rem = x.getTask(comp, task, PeriodicResource.T_REMAINING);
                    int wcet = x.getTask(comp, task, PeriodicResource.T_WCET);
                    Check.due("rem in 0..C", rem >= 0 && rem <= wcet, true);
                }
            }
            x.run(1);
        }
    }

    private static void timeToZero() {
        Check.sentence("RESET sets now = 0");
        for (int units : new int[] {1, 9, 99, 100}) {
            for (Change change : CHANGES) {
                PeriodicResource x = Stages.admitted();
                x.run(units);
                change.call.accept(x);
                Check.due("getTime() after " + change.name + " at " + units, x.getTime(), 0);
            }
            PeriodicResource y = Stages.admitted();
            y.run(units);
            y.admit();
            Check.due("getTime() after admit() at " + units, y.getTime(), 0);
        }
    }

    private static void workToTheStart() {
        Check.sentence("every task rem = C and exec = 0");
        for (int units = 1; units <= 100; units++) {
            for (Change change : CHANGES) {
                PeriodicResource x = Stages.admitted();
                x.run(units);
                change.call.accept(x);
                dueWork(change.name + " at " + units, x);
            }
        }
        // The eighth task of each component, too.
        PeriodicResource y = Stages.full();
        y.run(80);
        y.admit();
        dueWork("admit() of full components", y);
    }

    private static void dueWork(String after, PeriodicResource x) {
        for (int comp = 0; comp < 4; comp++) {
            for (int task = 0; task < x.getComponent(comp, PeriodicResource.C_TASKS); task++) {
                String name = " of " + comp + "/" + task + " after " + after;
                Check.due("rem" + name, x.getTask(comp, task, PeriodicResource.T_REMAINING),
                        x.getTask(comp, task, PeriodicResource.T_WCET));
                Check.due("exec" + name, x.getTask(comp, task, PeriodicResource.T_EXECUTED), 0);
            }
        }
    }

    private static void missesToZero() {
        Check.sentence("every component misses = 0");
        for (int i = 0; i <= CHANGES.size(); i++) {
            // Each component misses its jobs: no interface, no service.
            PeriodicResource x = new PeriodicResource(100);
            for (int comp = 0; comp < 4; comp++) {
                x.addTask(comp, 2 + comp, 1);
            }
            if (!Stages.forceAdmitted(x)) {
                Check.skip(Stages.NO_FORCE);
                return;
            }
            x.run(20);
            for (int comp = 0; comp < 4; comp++) {
                Check.due("misses of " + comp + " before", x.getMisses(comp), 20 / (2 + comp));
            }
            if (i < CHANGES.size()) {
                CHANGES.get(i).call.accept(x);
            } else {
                x.admit();
            }
            for (int comp = 0; comp < 4; comp++) {
                Check.due("misses of " + comp + " after call " + i, x.getMisses(comp), 0);
            }
        }
    }

    private static void budgetsToFull() {
        Check.sentence("left = Q if it has an interface, else 0");
        int[] budgets = {3, 1, 0, 1};
        for (int units : new int[] {1, 3, 4, 7, 9, 15, 99, 100}) {
            for (Change change : CHANGES) {
                PeriodicResource x = Stages.admitted();
                x.run(units);
                change.call.accept(x);
                for (int comp = 0; comp < 4; comp++) {
                    boolean kept = comp != change.comp || change.name.startsWith("compute");
                    Check.due("left of " + comp + " after " + change.name + " at " + units,
                            x.getBudgetLeft(comp), kept ? budgets[comp] : 0);
                }
            }
            PeriodicResource y = Stages.admitted();
            y.run(units);
            y.admit();
            for (int comp = 0; comp < 4; comp++) {
                Check.due("left of " + comp + " after admit() at " + units, y.getBudgetLeft(comp), budgets[comp]);
            }
        }
    }

    private static void instantZeroIsProcessed() {
        Check.sentence("Instant 0 counts as already processed (first jobs released, budgets filled).");
        // The first unit serves the first job out of the first budget; neither comes a second time.
        PeriodicResource x = new PeriodicResource(64);
        Stages.addTaskFor(x, 0, 4, 2);
        x.computeInterface(0, 4);
        x.admit();
        Check.due("left at 0", x.getBudgetLeft(0), 2);
        Check.due("rem at 0", x.getTask(0, 0, PeriodicResource.T_REMAINING), 2);
        int[] left = {1, 0, 0, 2, 1, 0, 0, 2};
        int[] rem = {1, 0, 0, 0, 0, 0, 0, 2};
        for (int i = 0; i < 8; i++) {
            x.run(1);
            Check.due("left at " + (i + 1), x.getBudgetLeft(0), left[i]);
            Check.due("rem at " + (i + 1), x.getTask(0, 0, PeriodicResource.T_REMAINING), rem[i]);
        }
        // Jobs that wait at 0 are not yet missed.
        PeriodicResource y = Stages.running();
        y.admit();
        Check.due("misses at 0", y.getMisses(0), 0);
        y.run(1);
        Check.due("exec of 0/0 at 1", y.getTask(0, 0, PeriodicResource.T_EXECUTED), 1);
        Check.due("misses at 1", y.getMisses(0), 0);
    }

    private static void acceptedCallsTakeAdmissionBack() {
        Check.sentence("Every accepted call of setPolicy, addTask, removeLastTask and computeInterface "
                + "sets admitted = false and then RESETs");
        for (int units : new int[] {0, 1, 9, 100}) {
            for (Change change : CHANGES) {
                PeriodicResource x = Stages.admitted();
                if (units > 0) {
                    x.run(units);
                }
                Check.due("isAdmitted() before " + change.name, x.isAdmitted(), true);
                change.call.accept(x);
                Check.dueTakenBack(change.name + " at " + units, x);
            }
        }
    }

    private static void resetsAfterItsOwnChange() {
        Check.sentence("(after its own change)");
        // The new budget, not the one that was there.
        PeriodicResource x = Stages.withServers(4, 3);
        Check.due("computeInterface(0, 1)", x.computeInterface(0, 1), 1);
        Check.due("left of the new interface", x.getBudgetLeft(0), 1);
        Check.due("computeInterface(0, 4)", x.computeInterface(0, 4), 3);
        Check.due("left of the old one again", x.getBudgetLeft(0), 3);
        // No budget is left of an interface that the call itself removed.
        x.setPolicy(0, PeriodicResource.EDF);
        Check.due("left after setPolicy", x.getBudgetLeft(0), 0);
        // The new task has its work and nothing executed, in a place where another one was.
        PeriodicResource y = Stages.running();
        y.removeLastTask(0);
        Check.due("addTask(0, 30, 5)", y.addTask(0, 30, 5), 1);
        Check.due("rem", y.getTask(0, 1, PeriodicResource.T_REMAINING), 5);
        Check.due("exec", y.getTask(0, 1, PeriodicResource.T_EXECUTED), 0);
        Check.dueReset("a task in an old place", y);
    }

    private static void refusedCallsChangeNothing() {
        Check.sentence("A call answered REFUSED (or false as refusal) changes nothing.");
        Stages.changesNothing("setPolicy(4, 0)", x -> x.setPolicy(4, 0) ? 1 : 0, 0);
        Stages.changesNothing("setPolicy(0, 2)", x -> x.setPolicy(0, 2) ? 1 : 0, 0);
        Stages.changesNothing("addTask(-1, 1, 1)", x -> x.addTask(-1, 1, 1), -1);
        Stages.changesNothing("addTask(0, 65, 1)", x -> x.addTask(0, 65, 1), -1);
        Stages.changesNothing("addTask(0, 64, 65)", x -> x.addTask(0, 64, 65), -1);
        Stages.changesNothing("removeLastTask(4)", x -> x.removeLastTask(4) ? 1 : 0, 0);
        Stages.changesNothing("computeInterface(4, 1)", x -> x.computeInterface(4, 1), -1);
        Stages.changesNothing("computeInterface(0, 33)", x -> x.computeInterface(0, 33), -1);
        Stages.changesNothing("run(0)", x -> x.run(0), -1);
        Stages.changesNothing("supplyBound(33, 0, 0)", x -> x.supplyBound(33, 0, 0), -1);
        Stages.changesNothing("demandBound(4, 0)", x -> x.demandBound(4, 0), -1);
        Stages.changesNothing("requestBound(0, 8, 0)", x -> x.requestBound(0, 8, 0), -1);
        Stages.changesNothing("getComponent(4, 0)", x -> x.getComponent(4, 0), -1);
        Stages.changesNothing("getTask(0, 8, 0)", x -> x.getTask(0, 8, 0), -1);
        Stages.changesNothing("getMisses(4)", x -> x.getMisses(4), -1);
        Stages.changesNothing("getBudgetLeft(4)", x -> x.getBudgetLeft(4), -1);
    }
}
