public final class PeriodicResource {
    public static final int EDF = 0;
    public static final int FP = 1;
    public static final int REFUSED = -1;
    public static final int NO_BUDGET = -2;
    public static final int COMPONENTS = 4;
    public static final int MAX_TASKS = 8;
    public static final int MAX_TASK_PERIOD = 64;
    public static final int MAX_INTERFACE_PERIOD = 32;
    public static final int MAX_T = 100000;
    public static final int MIN_HORIZON = 64;
    public static final int MAX_HORIZON = 256;
    public static final int C_POLICY = 0;
    public static final int C_TASKS = 1;
    public static final int C_PERIOD = 2;
    public static final int C_BUDGET = 3;
    public static final int T_PERIOD = 0;
    public static final int T_WCET = 1;
    public static final int T_REMAINING = 2;
    public static final int T_EXECUTED = 3;

    private static final int TASK_SLOTS = COMPONENTS * MAX_TASKS;

    // No lawful interface has period 0, and a new array holds 0: so a new
    // object has no interface anywhere without being filled.
    private static final int NO_INTERFACE = 0;

    // What a choice among components or tasks answers when there is none, and
    // what the getters answer for the fields of a missing interface.
    private static final int NONE = -1;

    private final int horizon;

    private final int[] policies = new int[COMPONENTS];
    private final int[] taskCounts = new int[COMPONENTS];
    private final int[] serverPeriods = new int[COMPONENTS];
    private final int[] serverBudgets = new int[COMPONENTS];

    // Task i of component c stands at slot c * MAX_TASKS + i. A slot below the
    // component's count has passed addTask, so its period is at least 1 and may
    // divide; a slot at or above the count is never read.
    private final int[] periods = new int[TASK_SLOTS];
    private final int[] wcets = new int[TASK_SLOTS];
    private final int[] remaining = new int[TASK_SLOTS];
    private final int[] executed = new int[TASK_SLOTS];

    private final int[] misses = new int[COMPONENTS];
    private final int[] budgetsLeft = new int[COMPONENTS];
    private int now;
    private boolean admitted;

    public PeriodicResource(int horizon) {
        this.horizon = clampHorizon(horizon);
        invalidate();
    }

    public int getHorizon() {
        return horizon;
    }

    public boolean setPolicy(int comp, int policy) {
        if (!isComponent(comp) || (policy != EDF && policy != FP)) {
            return false;
        }
        policies[comp] = policy;
        removeInterface(comp);
        invalidate();
        return true;
    }

    public int addTask(int comp, int period, int wcet) {
        if (!isComponent(comp)
                || period < 1 || period > MAX_TASK_PERIOD
                || wcet < 1 || wcet > period
                || taskCounts[comp] >= MAX_TASKS) {
            return REFUSED;
        }
        int task = taskCounts[comp];
        int slot = comp * MAX_TASKS + task;
        periods[slot] = period;
        wcets[slot] = wcet;
        taskCounts[comp] = task + 1;
        removeInterface(comp);
        invalidate();
        return task;
    }

    public boolean removeLastTask(int comp) {
        if (!isComponent(comp) || taskCounts[comp] < 1) {
            return false;
        }
        taskCounts[comp]--;
        removeInterface(comp);
        invalidate();
        return true;
    }

    public int computeInterface(int comp, int period) {
        if (!isComponent(comp) || !isInterfacePeriod(period)) {
            return REFUSED;
        }
        int budget = leastBudget(comp, period);
        if (budget == NO_BUDGET) {
            removeInterface(comp);
        } else {
            serverPeriods[comp] = period;
            serverBudgets[comp] = budget;
        }
        invalidate();
        return budget;
    }

    public boolean admit() {
        admitted = everyTaskIsServed() && bandwidthFits();
        reset();
        return admitted;
    }

    public boolean isAdmitted() {
        return admitted;
    }

    public int run(int steps) {
        if (!admitted || steps < 1) {
            return REFUSED;
        }
        int toHorizon = horizon - now;
        int units = steps < toHorizon ? steps : toHorizon;
        for (int unit = 0; unit < units; unit++) {
            simulateUnit();
        }
        return units;
    }

    public int getTime() {
        return now;
    }

    public int supplyBound(int period, int budget, int t) {
        if (!isInterfacePeriod(period) || budget < 0 || budget > period || !isBoundTime(t)) {
            return REFUSED;
        }
        return supply(period, budget, t);
    }

    public int demandBound(int comp, int t) {
        if (!isComponent(comp) || !isBoundTime(t)) {
            return REFUSED;
        }
        return demand(comp, t);
    }

    public int requestBound(int comp, int task, int t) {
        if (!isTask(comp, task) || !isBoundTime(t)) {
            return REFUSED;
        }
        return request(comp, task, t);
    }

    public int getComponent(int comp, int field) {
        if (!isComponent(comp)) {
            return REFUSED;
        }
        switch (field) {
            case C_POLICY:
                return policies[comp];
            case C_TASKS:
                return taskCounts[comp];
            case C_PERIOD:
                return hasInterface(comp) ? serverPeriods[comp] : NONE;
            case C_BUDGET:
                return hasInterface(comp) ? serverBudgets[comp] : NONE;
            default:
                return REFUSED;
        }
    }

    public int getTask(int comp, int task, int field) {
        if (!isTask(comp, task)) {
            return REFUSED;
        }
        int slot = comp * MAX_TASKS + task;
        switch (field) {
            case T_PERIOD:
                return periods[slot];
            case T_WCET:
                return wcets[slot];
            case T_REMAINING:
                return remaining[slot];
            case T_EXECUTED:
                return executed[slot];
            default:
                return REFUSED;
        }
    }

    public int getMisses(int comp) {
        return isComponent(comp) ? misses[comp] : REFUSED;
    }

    public int getBudgetLeft(int comp) {
        return isComponent(comp) ? budgetsLeft[comp] : REFUSED;
    }

    private static int clampHorizon(int wanted) {
        if (wanted < MIN_HORIZON) {
            return MIN_HORIZON;
        }
        return wanted > MAX_HORIZON ? MAX_HORIZON : wanted;
    }

    private static boolean isComponent(int comp) {
        return comp >= 0 && comp < COMPONENTS;
    }

    private static boolean isInterfacePeriod(int period) {
        return period >= 1 && period <= MAX_INTERFACE_PERIOD;
    }

    private static boolean isBoundTime(int t) {
        return t >= 0 && t <= MAX_T;
    }

    private boolean isTask(int comp, int task) {
        return isComponent(comp) && task >= 0 && task < taskCounts[comp];
    }

    private boolean hasInterface(int comp) {
        return serverPeriods[comp] != NO_INTERFACE;
    }

    private void removeInterface(int comp) {
        serverPeriods[comp] = NO_INTERFACE;
        serverBudgets[comp] = 0;
    }

    private void invalidate() {
        admitted = false;
        reset();
    }

    private void reset() {
        now = 0;
        for (int comp = 0; comp < COMPONENTS; comp++) {
            misses[comp] = 0;
            budgetsLeft[comp] = hasInterface(comp) ? serverBudgets[comp] : 0;
            int first = comp * MAX_TASKS;
            int end = first + taskCounts[comp];
            for (int slot = first; slot < end; slot++) {
                remaining[slot] = wcets[slot];
                executed[slot] = 0;
            }
        }
    }

    private static int supply(int period, int budget, int t) {
        int gap = period - budget;
        if (budget == 0 || t <= gap) {
            return 0;
        }
        int sinceGap = t - gap;
        int fullPeriods = sinceGap / period;
        int rest = sinceGap % period;
        int partial = rest > gap ? rest - gap : 0;
        return fullPeriods * budget + partial;
    }

    private int demand(int comp, int t) {
        int sum = 0;
        int first = comp * MAX_TASKS;
        int end = first + taskCounts[comp];
        for (int slot = first; slot < end; slot++) {
            sum += t / periods[slot] * wcets[slot];
        }
        return sum;
    }

    private int request(int comp, int task, int t) {
        int sum = 0;
        int first = comp * MAX_TASKS;
        int last = first + task;
        for (int slot = first; slot <= last; slot++) {
            int period = periods[slot];
            sum += (t + period - 1) / period * wcets[slot];
        }
        return sum;
    }

    private int leastBudget(int comp, int period) {
        for (int budget = 0; budget <= period; budget++) {
            boolean covered = policies[comp] == FP
                    ? coversFixedPriority(comp, period, budget)
                    : coversDeadlines(comp, period, budget);
            if (covered) {
                return budget;
            }
        }
        return NO_BUDGET;
    }

    private boolean coversDeadlines(int comp, int period, int budget) {
        for (int t = 1; t <= horizon; t++) {
            if (demand(comp, t) > supply(period, budget, t)) {
                return false;
            }
        }
        return true;
    }

    private boolean coversFixedPriority(int comp, int period, int budget) {
        int count = taskCounts[comp];
        for (int task = 0; task < count; task++) {
            if (!coversTask(comp, task, period, budget)) {
                return false;
            }
        }
        return true;
    }

    private boolean coversTask(int comp, int task, int period, int budget) {
        int deadline = periods[comp * MAX_TASKS + task];
        for (int t = 1; t <= deadline; t++) {
            if (request(comp, task, t) <= supply(period, budget, t)) {
                return true;
            }
        }
        return false;
    }

    private boolean everyTaskIsServed() {
        for (int comp = 0; comp < COMPONENTS; comp++) {
            if (taskCounts[comp] > 0 && !hasInterface(comp)) {
                return false;
            }
        }
        return true;
    }

    // The sum is kept as the fraction used / whole, so that it is exact; whole
    // is at most 32 to the fourth and used at most four times that.
    private boolean bandwidthFits() {
        int used = 0;
        int whole = 1;
        for (int comp = 0; comp < COMPONENTS; comp++) {
            if (hasInterface(comp)) {
                used = used * serverPeriods[comp] + serverBudgets[comp] * whole;
                whole *= serverPeriods[comp];
            }
        }
        return used <= whole;
    }

    private void simulateUnit() {
        int comp = chooseComponent();
        if (comp != NONE) {
            budgetsLeft[comp]--;
            serveTask(comp);
        }
        now++;
        refillBudgets();
        releaseJobs();
    }

    private int chooseComponent() {
        int chosen = NONE;
        int leastDeadline = 0;
        for (int comp = 0; comp < COMPONENTS; comp++) {
            if (hasInterface(comp) && budgetsLeft[comp] > 0) {
                int period = serverPeriods[comp];
                int deadline = (now / period + 1) * period;
                if (chosen == NONE || deadline < leastDeadline) {
                    chosen = comp;
                    leastDeadline = deadline;
                }
            }
        }
        return chosen;
    }

    private void serveTask(int comp) {
        int slot = policies[comp] == FP ? firstPendingSlot(comp) : mostUrgentSlot(comp);
        if (slot != NONE) {
            remaining[slot]--;
            executed[slot]++;
        }
    }

    private int firstPendingSlot(int comp) {
        int first = comp * MAX_TASKS;
        int end = first + taskCounts[comp];
        for (int slot = first; slot < end; slot++) {
            if (remaining[slot] > 0) {
                return slot;
            }
        }
        return NONE;
    }

    private int mostUrgentSlot(int comp) {
        int chosen = NONE;
        int leastDeadline = 0;
        int first = comp * MAX_TASKS;
        int end = first + taskCounts[comp];
        for (int slot = first; slot < end; slot++) {
            if (remaining[slot] > 0) {
                int deadline = (now / periods[slot] + 1) * periods[slot];
                if (chosen == NONE || deadline < leastDeadline) {
                    chosen = slot;
                    leastDeadline = deadline;
                }
            }
        }
        return chosen;
    }

    private void refillBudgets() {
        for (int comp = 0; comp < COMPONENTS; comp++) {
            if (hasInterface(comp) && now % serverPeriods[comp] == 0) {
                budgetsLeft[comp] = serverBudgets[comp];
            }
        }
    }

    private void releaseJobs() {
        for (int comp = 0; comp < COMPONENTS; comp++) {
            int first = comp * MAX_TASKS;
            int end = first + taskCounts[comp];
            for (int slot = first; slot < end; slot++) {
                if (now % periods[slot] == 0) {
                    if (remaining[slot] > 0) {
                        misses[comp]++;
                    }
                    remaining[slot] = wcets[slot];
                }
            }
        }
    }
}
