import java.util.Arrays;

/**
 * Counting wrong answers, sentence by sentence of the document, and reading a whole state.
 * A test says with sentence(..) which words of ../shared/DOC.md the checks that follow hold
 * the class to; a sentence without a check is itself a fault of the test.
 */
final class Check {
    static final int MIN = Integer.MIN_VALUE;
    static final int MAX = Integer.MAX_VALUE;

    // A class that is broken in the middle of a loop would otherwise fill the screen.
    private static final int SHOWN_PER_SENTENCE = 10;

    private static String sentence = "";
    private static int sentences = 0;
    private static int checks = 0;
    private static int wrongInSentence = 0;
    private static int wrong = 0;

    private Check() {
    }

    /** Which part of a sentence, or whose, when its words stand more than once. */
    static void sentence(String words, String which) {
        sentence(words);
        sentence += " (" + which + ")";
    }

    static void sentence(String words) {
        endSentence();
        sentence = "\"" + words + "\"";
        sentences++;
        checks = 0;
        wrongInSentence = 0;
    }

    private static void endSentence() {
        if (sentences > 0 && checks == 0) {
            due("the number of checks is above 0", false, true);
        }
    }

    /** A check that the class's representation, which is free, does not let us make. */
    static void skip(String why) {
        checks++;
        System.out.println("skipped: " + sentence + ": " + why);
    }

    private static void fault(String text) {
        wrong++;
        wrongInSentence++;
        if (wrongInSentence == 1 && sentences > 0) {
            System.out.println(sentence + ":");
        }
        if (wrongInSentence <= SHOWN_PER_SENTENCE) {
            System.out.println("  " + text);
        }
    }

    static void due(String call, long got, long want) {
        checks++;
        if (got != want) {
            fault(call + " answered " + got + ", due is " + want);
        }
    }

    static void due(String call, boolean got, boolean want) {
        due(call, got ? 1 : 0, want ? 1 : 0);
    }

    static void due(String what, int[] got, int[] want) {
        checks++;
        int at = Arrays.mismatch(got, want);
        if (at >= 0 && got.length == want.length) {
            fault(what + " has " + got[at] + " at place " + at + ", due is " + want[at]);
        } else if (at >= 0) {
            fault(what + " has " + got.length + " places, due are " + want.length);
        }
    }

    static int wrongSoFar() {
        return wrong;
    }

    static void finish() {
        endSentence();
        if (wrong != 0) {
            System.out.println(wrong + " answers are not as due");
            System.exit(1);
        }
        System.out.println("all answers are as due" + (sentences == 0 ? "" : ", sentences: " + sentences));
    }

    /**
     * Numbers outside low..high: its neighbours, the ends of int, and those that would fall
     * inside if they were cut to a byte or a short, or wrapped around when multiplied by 8.
     */
    static int[] outside(int low, int high) {
        int[] all = {
            MIN, MIN + 1, MIN + low, low - 65536, low - 256, low - 2, low - 1,
            high + 1, high + 2, low + 256, high + 256, low + 65536, high + 65536,
            low + (1 << 29), 1 << 30, MAX - 1, MAX,
        };
        return Arrays.stream(all).filter(i -> i < low || i > high).distinct().toArray();
    }

    /** Policy, task count, interface and every task's period and wcet of one component. */
    static int[] settings(PeriodicResource x, int comp) {
        int[] all = new int[4 + 2 * 8];
        for (int field = 0; field < 4; field++) {
            all[field] = x.getComponent(comp, field);
        }
        for (int task = 0; task < 8; task++) {
            all[4 + 2 * task] = x.getTask(comp, task, PeriodicResource.T_PERIOD);
            all[5 + 2 * task] = x.getTask(comp, task, PeriodicResource.T_WCET);
        }
        return all;
    }

    static int[][] allSettings(PeriodicResource x) {
        return new int[][] {settings(x, 0), settings(x, 1), settings(x, 2), settings(x, 3)};
    }

    static void dueSettings(String after, PeriodicResource x, int[][] want) {
        for (int comp = 0; comp < 4; comp++) {
            due(after + ": settings of " + comp, settings(x, comp), want[comp]);
        }
    }

    static void dropInterface(int[] settings) {
        settings[PeriodicResource.C_PERIOD] = -1;
        settings[PeriodicResource.C_BUDGET] = -1;
    }

    /** Misses, budget left and every task's remaining and executed work of one component. */
    static int[] progress(PeriodicResource x, int comp) {
        int[] all = new int[2 + 2 * 8];
        all[0] = x.getMisses(comp);
        all[1] = x.getBudgetLeft(comp);
        for (int task = 0; task < 8; task++) {
            all[2 + 2 * task] = x.getTask(comp, task, PeriodicResource.T_REMAINING);
            all[3 + 2 * task] = x.getTask(comp, task, PeriodicResource.T_EXECUTED);
        }
        return all;
    }

    /** Everything that can be read. */
    static int[] state(PeriodicResource x) {
        int[] all = {x.getHorizon(), x.getTime(), x.isAdmitted() ? 1 : 0};
        for (int comp = 0; comp < 4; comp++) {
            all = join(all, settings(x, comp));
            all = join(all, progress(x, comp));
        }
        return all;
    }

    static int[] join(int[] a, int... b) {
        int[] both = Arrays.copyOf(a, a.length + b.length);
        System.arraycopy(b, 0, both, a.length, b.length);
        return both;
    }

    /** That the simulation stands as RESET leaves it. */
    static void dueReset(String after, PeriodicResource x) {
        due(after + ": getTime()", x.getTime(), 0);
        for (int comp = 0; comp < 4; comp++) {
            int budget = x.getComponent(comp, PeriodicResource.C_BUDGET);
            due(after + ": misses of " + comp, x.getMisses(comp), 0);
            due(after + ": left of " + comp, x.getBudgetLeft(comp), budget < 0 ? 0 : budget);
            for (int task = 0; task < x.getComponent(comp, PeriodicResource.C_TASKS); task++) {
                String name = after + ": task " + comp + "/" + task;
                due(name + " rem", x.getTask(comp, task, PeriodicResource.T_REMAINING),
                        x.getTask(comp, task, PeriodicResource.T_WCET));
                due(name + " exec", x.getTask(comp, task, PeriodicResource.T_EXECUTED), 0);
            }
        }
    }

    /** That a change was taken: admission is gone and the simulation starts anew. */
    static void dueTakenBack(String after, PeriodicResource x) {
        due(after + ": isAdmitted()", x.isAdmitted(), false);
        due(after + ": run(1)", x.run(1), PeriodicResource.REFUSED);
        dueReset(after, x);
    }
}
