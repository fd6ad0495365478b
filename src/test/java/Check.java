import java.lang.reflect.Field;
import java.util.Arrays;

/** What the tests share: counting wrong answers, reading a whole state, ready-made objects. */
final class Check {
    static final int MIN = Integer.MIN_VALUE;
    static final int MAX = Integer.MAX_VALUE;

    private static int wrong = 0;

    private Check() {
    }

    static void due(String call, long got, long want) {
        if (got != want) {
            wrong++;
            System.out.println(call + " answered " + got + ", due is " + want);
        }
    }

    static void due(String call, boolean got, boolean want) {
        due(call, got ? 1 : 0, want ? 1 : 0);
    }

    static void due(String what, int[] got, int[] want) {
        if (!Arrays.equals(got, want)) {
            wrong++;
            System.out.println(what + " is " + Arrays.toString(got)
                    + ", due is " + Arrays.toString(want));
        }
    }

    static int wrongSoFar() {
        return wrong;
    }

    static void finish() {
        if (wrong != 0) {
            System.out.println(wrong + " answers are not as due");
            System.exit(1);
        }
        System.out.println("all answers are as due");
    }

    /** Policy, task count, interface and every task's period and wcet of one component. */
    static int[] settings(PeriodicResource x, int comp) {
        int[] all = new int[4 + 2 * 8];
        for (int field = 0; field < 4; field++) {
            all[field] = x.getComponent(comp, field);
        }
        for (int task = 0; task < 8; task++) {
            all[4 + 2 * task] = x.getTask(comp, task, PeriodicResource.T_PERIOD);
            all[5 + 2 * task] = x.getTask(comp, task, PeriodicResource.T_WCET);
        }
        return all;
    }

    /** Misses, budget left and every task's remaining and executed work of one component. */
    static int[] progress(PeriodicResource x, int comp) {
        int[] all = new int[2 + 2 * 8];
        all[0] = x.getMisses(comp);
        all[1] = x.getBudgetLeft(comp);
        for (int task = 0; task < 8; task++) {
            all[2 + 2 * task] = x.getTask(comp, task, PeriodicResource.T_REMAINING);
            all[3 + 2 * task] = x.getTask(comp, task, PeriodicResource.T_EXECUTED);
        }
        return all;
    }

    /** Everything that can be read. */
    static int[] state(PeriodicResource x) {
        int[] all = {x.getHorizon(), x.getTime(), x.isAdmitted() ? 1 : 0};
        for (int comp = 0; comp < 4; comp++) {
            all = join(all, settings(x, comp));
            all = join(all, progress(x, comp));
        }
        return all;
    }

    static int[] join(int[] a, int[] b) {
        int[] both = Arrays.copyOf(a, a.length + b.length);
        System.arraycopy(b, 0, both, a.length, b.length);
        return both;
    }

    /** That the simulation stands as RESET leaves it. */
    static void dueReset(String after, PeriodicResource x) {
        due(after + ": getTime()", x.getTime(), 0);
        for (int comp = 0; comp < 4; comp++) {
            int budget = x.getComponent(comp, PeriodicResource.C_BUDGET);
            due(after + ": misses of " + comp, x.getMisses(comp), 0);
            due(after + ": left of " + comp, x.getBudgetLeft(comp), budget < 0 ? 0 : budget);
            for (int task = 0; task < x.getComponent(comp, PeriodicResource.C_TASKS); task++) {
                String name = after + ": task " + comp + "/" + task;
                due(name + " rem", x.getTask(comp, task, PeriodicResource.T_REMAINING),
                        x.getTask(comp, task, PeriodicResource.T_WCET));
                due(name + " exec", x.getTask(comp, task, PeriodicResource.T_EXECUTED), 0);
            }
        }
    }

    /**
     * An admitted object with H = 100, not yet run:
     * component 0 EDF, tasks (8,2) and (12,3), interface (4,3);
     * component 1 FP, task (32,1), interface (8,1);
     * component 2 EDF, no tasks, interface (5,0);
     * component 3 EDF, task (64,1), interface (16,1).
     */
    static PeriodicResource admittedObject() {
        PeriodicResource x = new PeriodicResource(100);
        x.addTask(0, 8, 2);
        x.addTask(0, 12, 3);
        x.setPolicy(1, PeriodicResource.FP);
        x.addTask(1, 32, 1);
        x.addTask(3, 64, 1);
        due("fixture: computeInterface(0, 4)", x.computeInterface(0, 4), 3);
        due("fixture: computeInterface(1, 8)", x.computeInterface(1, 8), 1);
        due("fixture: computeInterface(2, 5)", x.computeInterface(2, 5), 0);
        due("fixture: computeInterface(3, 16)", x.computeInterface(3, 16), 1);
        due("fixture: admit()", x.admit(), true);
        return x;
    }

    /** The same after nine units, when every component stands amid its work. */
    static PeriodicResource runningObject() {
        PeriodicResource x = admittedObject();
        due("fixture: run(9)", x.run(9), 9);
        return x;
    }

    /** Adds the task for which (period, budget) is the least interface with that period. */
    static void addTaskFor(PeriodicResource x, int comp, int period, int budget) {
        int wcet = 2 * budget <= period ? budget : 3 * budget - period;
        x.addTask(comp, 2 * period, wcet);
        due("computeInterface(" + comp + ", " + period + ")",
                x.computeInterface(comp, period), budget);
    }

    /**
     * Lets an overloaded object run. No run of public calls gets an admitted object
     * to miss a deadline (Promise 7's consequence), so that step 4 of a unit, which
     * must count misses all the same, can be seen in no other way.
     */
    static void forceAdmitted(PeriodicResource x) {
        try {
            Field admitted = PeriodicResource.class.getDeclaredField("admitted");
            admitted.setAccessible(true);
            admitted.setBoolean(x, true);
        } catch (ReflectiveOperationException e) {
            throw new IllegalStateException(e);
        }
    }
}
