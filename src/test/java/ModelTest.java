import java.math.BigInteger;
import java.util.ArrayList;
import java.util.List;

/**
 * Long walks of calls, the same on the class and on a second writing of the document
 * that takes other ways where it can: every answer and every state must agree. In
 * every third walk admission is forced now and then, so that overloads run too.
 */
public final class ModelTest {
    private static final int WALKS = 600;
    private static final int CALLS = 120;

    private static long seed = 20261115L;

    public static void main(String[] args) {
        for (int walk = 0; walk < WALKS && Check.wrongSoFar() == 0; walk++) {
            walk(walk);
        }
        boolean missesCanBeSeen = Stages.forceAdmitted(new PeriodicResource(64));
        if (admittedUnits < 1000 || missesCanBeSeen && missesSeen < 100) {
            Check.due("the walks saw too little: " + admittedUnits + " units, " + missesSeen + " misses", 0, 1);
        }
        Check.finish();
    }

    private static long admittedUnits = 0;
    private static long missesSeen = 0;

    private static int next(int bound) {
        seed = seed * 6364136223846793005L + 1442695040888963407L;
        return (int) ((seed >>> 33) % bound);
    }

    private static int component() {
        return next(40) == 0 ? (next(2) == 0 ? -1 : 4) : next(4);
    }

    private static void walk(int number) {
        int horizon = 50 + next(220);
        PeriodicResource x = new PeriodicResource(horizon);
        Model m = new Model(horizon);
        boolean mayForce = number % 3 == 0;
        boolean light = number % 2 == 0;
        boolean forced = false;
        for (int i = 0; i < CALLS; i++) {
            String name = "walk " + number + " call " + i + ": ";
            if (mayForce && next(8) == 0 && Stages.forceAdmitted(x)) {
                m.admitted = true;
                forced = true;
            }
            call(name, x, m, light);
            forced &= m.admitted;
            Check.due(name + "state", Check.state(x), m.state());
            for (int comp = 0; comp < 4; comp++) {
                int misses = x.getMisses(comp);
                missesSeen += misses;
                if (x.isAdmitted() && !forced) {
                    Check.due(name + "misses of an admitted hierarchy", misses, 0);
                }
            }
        }
    }

    private static void call(String name, PeriodicResource x, Model m, boolean light) {
        int comp = component();
        switch (next(12)) {
            case 0:
                int policy = next(20) == 0 ? 2 : next(2);
                Check.due(name + "setPolicy(" + comp + ", " + policy + ")",
                        x.setPolicy(comp, policy), m.setPolicy(comp, policy));
                break;
            case 1:
            case 2:
                int period = light ? 8 + next(58) : next(66);
                int wcet = light ? 1 + next(3) : next(1 + period) + next(30) / 29;
                Check.due(name + "addTask(" + comp + ", " + period + ", " + wcet + ")",
                        x.addTask(comp, period, wcet), m.addTask(comp, period, wcet));
                break;
            case 3:
                Check.due(name + "removeLastTask(" + comp + ")",
                        x.removeLastTask(comp), m.removeLastTask(comp));
                break;
            case 4:
            case 5:
                for (int c = 0; c < 4; c++) {
                    int p = light ? 1 + next(10) : next(34);
                    Check.due(name + "computeInterface(" + c + ", " + p + ")",
                            x.computeInterface(c, p), m.computeInterface(c, p));
                }
                boolean now = m.admit();
                Check.due(name + "admit()", x.admit(), now);
                break;
            case 6:
                Check.due(name + "admit()", x.admit(), m.admit());
                break;
            case 7:
            case 8:
            case 9:
                int steps = next(5) == 0 ? next(300) - 3 : next(9);
                int units = m.run(steps);
                Check.due(name + "run(" + steps + ")", x.run(steps), units);
                admittedUnits += Math.max(0, units);
                break;
            default:
                bounds(name, x, m, comp);
        }
    }

    private static void bounds(String name, PeriodicResource x, Model m, int comp) {
        int t = next(4) == 0 ? next(100003) - 1 : next(300) - 1;
        int p = next(34);
        int q = next(35) - 1;
        int task = next(9) - 1;
        Check.due(name + "supplyBound", x.supplyBound(p, q, t),
                p < 1 || p > 32 || q < 0 || q > p || t < 0 || t > 100000 ? -1 : Model.supply(p, q, t));
        boolean known = comp >= 0 && comp < 4 && t >= 0 && t <= 100000;
        Check.due(name + "demandBound", x.demandBound(comp, t), known ? m.parts[comp].demand(t) : -1);
        boolean taskKnown = known && task >= 0 && task < m.parts[comp].tasks.size();
        Check.due(name + "requestBound", x.requestBound(comp, task, t),
                taskKnown ? m.parts[comp].request(task, t) : -1);
    }

    private static final class Task {
        final int period;
        final int wcet;
        int rem;
        int exec;
        int deadline;

        Task(int period, int wcet) {
            this.period = period;
            this.wcet = wcet;
        }
    }

    private static final class Part {
        final List<Task> tasks = new ArrayList<>();
        boolean fixedPriority;
        boolean served;
        int period;
        int budget;
        int left;
        int misses;
        int serverDeadline;

        int demand(int t) {
            int sum = 0;
            for (Task task : tasks) {
                for (int end = task.period; end <= t; end += task.period) {
                    sum += task.wcet;
                }
            }
            return sum;
        }

        int request(int last, int t) {
            int sum = 0;
            for (Task task : tasks.subList(0, last + 1)) {
                for (int release = 0; release < t; release += task.period) {
                    sum += task.wcet;
                }
            }
            return sum;
        }

        boolean covered(int p, int q, int horizon) {
            if (!fixedPriority) {
                for (int t = 1; t <= horizon; t++) {
                    if (demand(t) > supply(t, p, q)) {
                        return false;
                    }
                }
                return true;
            }
            for (int i = 0; i < tasks.size(); i++) {
                boolean met = false;
                for (int t = 1; t <= tasks.get(i).period && !met; t++) {
                    met = request(i, t) <= supply(t, p, q);
                }
                if (!met) {
                    return false;
                }
            }
            return true;
        }

        private static int supply(int t, int p, int q) {
            return Model.supply(p, q, t);
        }
    }

    private static final class Model {
        final Part[] parts = {new Part(), new Part(), new Part(), new Part()};
        final int horizon;
        int now;
        boolean admitted;

        Model(int horizon) {
            this.horizon = Math.max(64, Math.min(256, horizon));
        }

        // The units of the worst pattern that lie before t.
        static int supply(int p, int q, int t) {
            int since = t - 2 * (p - q);
            if (since <= 0) {
                return 0;
            }
            return since / p * q + Math.min(q, since % p);
        }

        private boolean known(int comp) {
            return comp >= 0 && comp <= 3;
        }

        private void changed(int comp) {
            parts[comp].served = false;
            admitted = false;
            reset();
        }

        private void reset() {
            now = 0;
            for (Part part : parts) {
                part.misses = 0;
                part.left = part.served ? part.budget : 0;
                part.serverDeadline = part.period;
                for (Task task : part.tasks) {
                    task.rem = task.wcet;
                    task.exec = 0;
                    task.deadline = task.period;
                }
            }
        }

        boolean setPolicy(int comp, int policy) {
            if (!known(comp) || policy < 0 || policy > 1) {
                return false;
            }
            parts[comp].fixedPriority = policy == 1;
            changed(comp);
            return true;
        }

        int addTask(int comp, int period, int wcet) {
            if (!known(comp) || period < 1 || period > 64 || wcet < 1 || wcet > period
                    || parts[comp].tasks.size() == 8) {
                return -1;
            }
            parts[comp].tasks.add(new Task(period, wcet));
            changed(comp);
            return parts[comp].tasks.size() - 1;
        }

        boolean removeLastTask(int comp) {
            if (!known(comp) || parts[comp].tasks.isEmpty()) {
                return false;
            }
            parts[comp].tasks.remove(parts[comp].tasks.size() - 1);
            changed(comp);
            return true;
        }

        int computeInterface(int comp, int period) {
            if (!known(comp) || period < 1 || period > 32) {
                return -1;
            }
            changed(comp);
            Part part = parts[comp];
            // From the top down: a budget that covers is followed by none that doesn't.
            int least = -2;
            for (int q = period; q >= 0 && part.covered(period, q, horizon); q--) {
                least = q;
            }
            if (least >= 0) {
                part.served = true;
                part.period = period;
                part.budget = least;
                reset();
            }
            return least;
        }

        boolean admit() {
            admitted = true;
            BigInteger whole = BigInteger.ONE;
            for (Part part : parts) {
                admitted &= part.served || part.tasks.isEmpty();
                whole = part.served ? whole.multiply(BigInteger.valueOf(part.period)) : whole;
            }
            BigInteger used = BigInteger.ZERO;
            for (Part part : parts) {
                if (part.served) {
                    used = used.add(whole.divide(BigInteger.valueOf(part.period))
                            .multiply(BigInteger.valueOf(part.budget)));
                }
            }
            admitted &= used.compareTo(whole) <= 0;
            reset();
            return admitted;
        }

        int run(int steps) {
            if (!admitted || steps < 1) {
                return -1;
            }
            int done = 0;
            while (done < steps && now < horizon) {
                unit();
                done++;
            }
            return done;
        }

        private void unit() {
            Part chosen = null;
            for (Part part : parts) {
                if (part.served && part.left > 0
                        && (chosen == null || part.serverDeadline < chosen.serverDeadline)) {
                    chosen = part;
                }
            }
            if (chosen != null) {
                chosen.left--;
                serve(chosen);
            }
            now++;
            for (Part part : parts) {
                if (part.served && now == part.serverDeadline) {
                    part.left = part.budget;
                    part.serverDeadline += part.period;
                }
                for (Task task : part.tasks) {
                    if (now == task.deadline) {
                        part.misses += task.rem > 0 ? 1 : 0;
                        task.rem = task.wcet;
                        task.deadline += task.period;
                    }
                }
            }
        }

        private void serve(Part part) {
            Task chosen = null;
            for (Task task : part.tasks) {
                if (task.rem > 0 && (chosen == null
                        || !part.fixedPriority && task.deadline < chosen.deadline)) {
                    chosen = task;
                }
            }
            if (chosen != null) {
                chosen.rem--;
                chosen.exec++;
            }
        }

        int[] state() {
            int[] all = {horizon, now, admitted ? 1 : 0};
            for (Part part : parts) {
                int[] settings = new int[20];
                int[] progress = new int[18];
                java.util.Arrays.fill(settings, -1);
                java.util.Arrays.fill(progress, -1);
                settings[0] = part.fixedPriority ? 1 : 0;
                settings[1] = part.tasks.size();
                settings[2] = part.served ? part.period : -1;
                settings[3] = part.served ? part.budget : -1;
                progress[0] = part.misses;
                progress[1] = part.left;
                for (int i = 0; i < part.tasks.size(); i++) {
                    Task task = part.tasks.get(i);
                    settings[4 + 2 * i] = task.period;
                    settings[5 + 2 * i] = task.wcet;
                    progress[2 + 2 * i] = task.rem;
                    progress[3 + 2 * i] = task.exec;
                }
                all = Check.join(Check.join(all, settings), progress);
            }
            return all;
        }
    }
}
