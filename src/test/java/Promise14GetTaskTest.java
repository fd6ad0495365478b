public final class Promise14GetTaskTest {
    public static void main(String[] args) {
        PeriodicResource x = Check.runningObject();
        int[] before = Check.state(x);
        for (int comp : new int[] {Check.MIN, -1, 4, 5, Check.MAX}) {
            refuse(x, comp, 0, 0);
        }
        for (int task : new int[] {Check.MIN, -1, 2, 3, 7, 8, Check.MAX}) {
            for (int field = -1; field <= 4; field++) {
                refuse(x, 0, task, field);
            }
        }
        refuse(x, 1, 1, 0);
        refuse(x, 2, 0, 0);
        for (int field : new int[] {Check.MIN, -1, 4, 5, Check.MAX}) {
            refuse(x, 0, 0, field);
            refuse(x, 0, 1, field);
            refuse(x, 3, 0, field);
        }
        int[] places = {0, 0, 0, 1, 1, 0, 3, 0};
        int[][] due = {{8, 2, 1, 3}, {12, 3, 0, 3}, {32, 1, 0, 1}, {64, 1, 0, 1}};
        for (int i = 0; i < due.length; i++) {
            for (int field = 0; field < 4; field++) {
                Check.due("getTask(" + places[2 * i] + ", " + places[2 * i + 1] + ", " + field + ")",
                        x.getTask(places[2 * i], places[2 * i + 1], field), due[i][field]);
            }
        }
        Check.due("state after getTask", Check.state(x), before);
        Check.finish();
    }

    private static void refuse(PeriodicResource x, int comp, int task, int field) {
        Check.due("getTask(" + comp + ", " + task + ", " + field + ")", x.getTask(comp, task, field), -1);
    }
}
