public final class Promise16GetBudgetLeftTest {
    public static void main(String[] args) {
        PeriodicResource x = Check.runningObject();
        int[] before = Check.state(x);
        for (int comp : new int[] {Check.MIN, -1, 4, 5, Check.MAX}) {
            Check.due("getBudgetLeft(" + comp + ")", x.getBudgetLeft(comp), -1);
        }
        Check.due("getBudgetLeft(0)", x.getBudgetLeft(0), 2);
        Check.due("getBudgetLeft(1)", x.getBudgetLeft(1), 1);
        Check.due("getBudgetLeft(2)", x.getBudgetLeft(2), 0);
        Check.due("getBudgetLeft(3)", x.getBudgetLeft(3), 0);
        Check.due("state after getBudgetLeft", Check.state(x), before);
        x.setPolicy(0, PeriodicResource.EDF);
        Check.due("getBudgetLeft(0) without interface", x.getBudgetLeft(0), 0);
        Check.due("getBudgetLeft(1) after RESET", x.getBudgetLeft(1), 1);
        Check.due("getBudgetLeft(3) after RESET", x.getBudgetLeft(3), 1);
        x.computeInterface(0, 4);
        Check.due("getBudgetLeft(0) of a new interface", x.getBudgetLeft(0), 3);
        Check.finish();
    }
}
