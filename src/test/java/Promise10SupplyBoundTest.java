public final class Promise10SupplyBoundTest {
    public static void main(String[] args) {
        pure();
        refusedPeriod();
        refusedBudget();
        refusedTime();
        testsInOrder();
        answersTheSupply();
        whateverTheState();
        Check.finish();
    }

    private static String name(int period, int budget, int t) {
        return "supplyBound(" + period + ", " + budget + ", " + t + ")";
    }

    private static void due(int period, int budget, int t, int want) {
        Check.due(name(period, budget, t), new PeriodicResource(64).supplyBound(period, budget, t), want);
    }

    private static void refuse(int period, int budget, int t) {
        Stages.changesNothing(name(period, budget, t),
                x -> x.supplyBound(period, budget, t), PeriodicResource.REFUSED);
    }

    private static void pure() {
        Check.sentence("`supplyBound(period, budget, t)` is pure.");
        Stages.changesNothing(name(4, 3, 24), x -> x.supplyBound(4, 3, 24), 17);
        Stages.changesNothing(name(32, 32, 100000), x -> x.supplyBound(32, 32, 100000), 100000);
        Stages.changesNothing(name(1, 0, 0), x -> x.supplyBound(1, 0, 0), 0);
        PeriodicResource x = new PeriodicResource(64);
        for (int i = 0; i < 3; i++) {
            Check.due("call " + i, x.supplyBound(5, 2, 40 + i), new int[] {14, 14, 15}[i]);
            Check.due("call " + i + " again", x.supplyBound(5, 2, 40 + i), new int[] {14, 14, 15}[i]);
        }
    }

    private static void refusedPeriod() {
        Check.sentence("If any fails it answers REFUSED.", "period in 1..32");
        for (int period : Check.outside(1, 32)) {
            refuse(period, 0, 10);
            refuse(period, 1, 10);
        }
        refuse(33, 33, 100);
        refuse(33, 32, 100);
        refuse(64, 64, 100);
        refuse(0, 0, 0);
    }

    private static void refusedBudget() {
        Check.sentence("If any fails it answers REFUSED.", "budget in 0..period");
        for (int period : new int[] {1, 2, 31, 32}) {
            for (int budget : Check.outside(0, period)) {
                refuse(period, budget, 10);
            }
        }
        for (int period = 1; period <= 32; period++) {
            due(period, -1, 1000, -1);
            due(period, period + 1, 1000, -1);
            due(period, 0, 1000, 0);
            due(period, period, 1000, 1000);
        }
    }

    private static void refusedTime() {
        Check.sentence("If any fails it answers REFUSED.", "t in 0..MAX_T");
        for (int period : new int[] {1, 32}) {
            for (int t : Check.outside(0, 100000)) {
                refuse(period, 0, t);
                refuse(period, 1, t);
                refuse(period, period, t);
            }
        }
    }

    private static void testsInOrder() {
        Check.sentence("It tests in order: period in 1..32; budget in 0..period; t in 0..MAX_T.");
        for (int period : Check.outside(1, 32)) {
            refuse(period, period, period);
            refuse(period, -1, 10);
            refuse(period, 0, -1);
        }
        refuse(0, 1, -1);
        refuse(33, 34, 100001);
        refuse(8, 9, 100001);
        refuse(8, -1, -1);
        // The ends of all three ranges are accepted.
        due(1, 0, 0, 0);
        due(1, 1, 0, 0);
        due(1, 1, 1, 1);
        due(1, 1, 100000, 100000);
        due(32, 0, 100000, 0);
        due(32, 32, 100000, 100000);
    }

    private static void answersTheSupply() {
        Check.sentence("Otherwise it answers sbf(period,budget,t).");
        // Counts the units of the worst pattern: a blackout of 2(P-Q), then Q of every P.
        PeriodicResource x = new PeriodicResource(64);
        for (int period = 1; period <= 32; period++) {
            for (int budget = 0; budget <= period; budget++) {
                int blackout = 2 * (period - budget);
                int units = 0;
                for (int t = 0; t <= 300; t++) {
                    Check.due(name(period, budget, t), x.supplyBound(period, budget, t), units);
                    if (t >= blackout && (t - blackout) % period < budget) {
                        units++;
                    }
                }
            }
        }
        // 99999 - 31 = 3124 * 32
        due(32, 1, 100000, 3124);
        due(32, 1, 99999, 3124);
        due(32, 1, 99998, 3123);
    }

    private static void whateverTheState() {
        Check.sentence("It does not depend on or change the object's state.");
        int[] wants = {0, 0, 1, 2, 3, 3, 4, 5, 6, 6, 7, 8};
        for (Stages.Stage stage : Stages.ALL) {
            for (int t = 0; t < wants.length; t++) {
                int at = t + 1;
                Stages.changesNothing(stage, name(4, 3, at), x -> x.supplyBound(4, 3, at), wants[t]);
            }
        }
        // Beyond every horizon, and for interfaces that no component has.
        due(7, 7, 99999, 99999);
        Check.due(name(7, 7, 99999), Stages.full().supplyBound(7, 7, 99999), 99999);
    }
}
