import java.lang.reflect.Array;
import java.lang.reflect.Field;
import java.lang.reflect.Modifier;
import java.util.ArrayList;
import java.util.List;
import java.util.function.Supplier;
import java.util.function.ToIntFunction;

/**
 * Objects at every stage of use, all with horizon 100: what the document asks "always"
 * or "never" is tried on each of them.
 */
final class Stages {
    /** A way to make one such object, as often as wanted. */
    static final class Stage {
        final String name;
        private final Supplier<PeriodicResource> maker;
        private int[] untouched;

        Stage(String name, Supplier<PeriodicResource> maker) {
            this.name = name;
            this.maker = maker;
        }

        PeriodicResource make() {
            return maker.get();
        }

        /** What an object of this stage shows now and later if nothing is called between. */
        private int[] untouchedTrail() {
            if (untouched == null) {
                untouched = trail(make());
            }
            return untouched;
        }
    }

    private Stages() {
    }

    static final List<Stage> ALL = all();

    private static List<Stage> all() {
        List<Stage> stages = new ArrayList<>();
        stages.add(new Stage("new", () -> new PeriodicResource(100)));
        stages.add(new Stage("admitted", Stages::admitted));
        stages.add(new Stage("running", Stages::running));
        stages.add(new Stage("at the horizon", Stages::atTheHorizon));
        stages.add(new Stage("changed", Stages::changed));
        stages.add(new Stage("full", Stages::full));
        stages.add(new Stage("too much", Stages::tooMuch));
        if (forceAdmitted(new PeriodicResource(100))) {
            stages.add(new Stage("missing", Stages::missing));
        }
        return stages;
    }

    /**
     * Not yet run:
     * component 0 EDF, tasks (8,2) and (12,3), interface (4,3);
     * component 1 FP, task (32,1), interface (8,1);
     * component 2 EDF, no tasks, interface (5,0);
     * component 3 EDF, task (64,1), interface (16,1).
     */
    static PeriodicResource admitted() {
        PeriodicResource x = new PeriodicResource(100);
        x.addTask(0, 8, 2);
        x.addTask(0, 12, 3);
        x.setPolicy(1, PeriodicResource.FP);
        x.addTask(1, 32, 1);
        x.addTask(3, 64, 1);
        x.computeInterface(0, 4);
        x.computeInterface(1, 8);
        x.computeInterface(2, 5);
        x.computeInterface(3, 16);
        x.admit();
        return x;
    }

    /** The same after nine units, when component 0 stands amid its work. */
    static PeriodicResource running() {
        PeriodicResource x = admitted();
        x.run(9);
        return x;
    }

    static PeriodicResource atTheHorizon() {
        PeriodicResource x = admitted();
        x.run(100);
        return x;
    }

    /** The same, not admitted any more, with no interface in component 2. */
    static PeriodicResource changed() {
        PeriodicResource x = running();
        x.setPolicy(2, PeriodicResource.FP);
        return x;
    }

    /** Eight tasks in each component, after ten units; components 1 and 3 under FP. */
    static PeriodicResource full() {
        PeriodicResource x = new PeriodicResource(100);
        for (int comp = 0; comp < 4; comp++) {
            x.setPolicy(comp, comp % 2);
            for (int task = 0; task < 8; task++) {
                x.addTask(comp, 64 - task, 1);
            }
            x.computeInterface(comp, 4);
        }
        x.admit();
        x.run(10);
        return x;
    }

    /** Interfaces (1,1) and (2,2), which do not fit together. */
    static PeriodicResource tooMuch() {
        PeriodicResource x = new PeriodicResource(100);
        x.addTask(0, 2, 2);
        x.addTask(3, 4, 4);
        x.computeInterface(0, 1);
        x.computeInterface(3, 2);
        x.admit();
        return x;
    }

    /** Run by force for nine units: component 0 has no interface and misses, 1 has it all. */
    static PeriodicResource missing() {
        PeriodicResource x = new PeriodicResource(100);
        x.addTask(0, 3, 2);
        x.addTask(0, 4, 1);
        x.addTask(1, 2, 2);
        x.computeInterface(1, 1);
        forceAdmitted(x);
        x.run(9);
        return x;
    }

    /** Adds the task for which (period, budget) is the least interface with that period. */
    static void addTaskFor(PeriodicResource x, int comp, int period, int budget) {
        x.addTask(comp, 2 * period, workFor(period, budget));
    }

    /** The most work that (period, budget) supplies in any two periods. */
    static int workFor(int period, int budget) {
        return 2 * budget <= period ? budget : 3 * budget - period;
    }

    /** An object with horizon 64 whose components have these interfaces: P, Q, P, Q, .. */
    static PeriodicResource withServers(int... pairs) {
        PeriodicResource x = new PeriodicResource(64);
        for (int i = 0; i < pairs.length; i += 2) {
            addTaskFor(x, i / 2, pairs[i], pairs[i + 1]);
            Check.due("computeInterface(" + i / 2 + ", " + pairs[i] + ")",
                    x.computeInterface(i / 2, pairs[i]), pairs[i + 1]);
        }
        return x;
    }

    /** One component, with this policy and these tasks: T, C, T, C, .. */
    static PeriodicResource withTasks(int horizon, int comp, int policy, int... pairs) {
        PeriodicResource x = new PeriodicResource(horizon);
        x.setPolicy(comp, policy);
        for (int i = 0; i < pairs.length; i += 2) {
            Check.due("addTask(" + comp + ", " + pairs[i] + ", " + pairs[i + 1] + ")",
                    x.addTask(comp, pairs[i], pairs[i + 1]), i / 2);
        }
        return x;
    }

    /** That at every stage a call answers this and leaves no trace, neither now nor later. */
    static void changesNothing(String name, ToIntFunction<PeriodicResource> call, int want) {
        for (Stage stage : ALL) {
            changesNothing(stage, name, call, want);
        }
    }

    static void changesNothing(Stage stage, String name, ToIntFunction<PeriodicResource> call, int want) {
        PeriodicResource x = stage.make();
        Check.due(name + " (" + stage.name + ")", call.applyAsInt(x), want);
        Check.due("what is seen after " + name + " (" + stage.name + ")", trail(x), stage.untouchedTrail());
    }

    private static int[] trail(PeriodicResource x) {
        int[] all = Check.state(x);
        all = Check.join(all, x.run(1));
        all = Check.join(all, Check.state(x));
        all = Check.join(all, x.run(1000));
        all = Check.join(all, Check.state(x));
        for (int comp = 0; comp < 4; comp++) {
            all = Check.join(all, x.computeInterface(comp, 8));
        }
        all = Check.join(all, x.admit() ? 1 : 0);
        all = Check.join(all, x.run(7));
        return Check.join(all, Check.state(x));
    }

    static final String NO_FORCE = "no field of the class was found that makes isAdmitted() true";

    /**
     * Lets an overloaded object run; false if no field was found by which it can be done. No
     * run of public calls gets an admitted object to miss a deadline or to lose budget at a
     * period's end (Promise 7's consequence), yet the document asks how both are counted.
     */
    static boolean forceAdmitted(PeriodicResource x) {
        for (Field field : PeriodicResource.class.getDeclaredFields()) {
            if (x.isAdmitted()) {
                return true;
            }
            if (!Modifier.isStatic(field.getModifiers()) && !Modifier.isFinal(field.getModifiers())) {
                tryField(x, field);
            }
        }
        return x.isAdmitted();
    }

    private static void tryField(PeriodicResource x, Field field) {
        try {
            field.setAccessible(true);
            Object old = field.get(x);
            if (field.getType() == boolean.class) {
                field.setBoolean(x, true);
            } else if (field.getType() == int.class) {
                field.setInt(x, 1);
            }
            if (!x.isAdmitted()) {
                field.set(x, old);
            }
        } catch (ReflectiveOperationException e) {
            throw new IllegalStateException(e);
        }
    }

    /**
     * Gives a component the interface (4,0) whatever its tasks are; false if that can't be done.
     * No run of public calls leaves an interface to a component that no budget covers.
     */
    static boolean forceInterface(PeriodicResource x, int comp) {
        PeriodicResource without = new PeriodicResource(100);
        PeriodicResource with = new PeriodicResource(100);
        with.computeInterface(comp, 4);
        try {
            for (Field field : PeriodicResource.class.getDeclaredFields()) {
                if (!Modifier.isStatic(field.getModifiers()) && field.getType().isArray()) {
                    field.setAccessible(true);
                    copyWhatDiffers(field.get(with), field.get(without), field.get(x));
                }
            }
        } catch (ReflectiveOperationException e) {
            throw new IllegalStateException(e);
        }
        return x.getComponent(comp, PeriodicResource.C_PERIOD) == 4
                && x.getComponent(comp, PeriodicResource.C_BUDGET) == 0;
    }

    private static void copyWhatDiffers(Object from, Object other, Object to) {
        for (int i = 0; i < Array.getLength(from); i++) {
            if (!Array.get(from, i).equals(Array.get(other, i))) {
                Array.set(to, i, Array.get(from, i));
            }
        }
    }
}
