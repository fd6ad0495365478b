public final class Promise13GetComponentTest {
    public static void main(String[] args) {
        PeriodicResource x = Check.runningObject();
        int[] before = Check.state(x);
        for (int comp : new int[] {Check.MIN, -1, 4, 5, Check.MAX}) {
            for (int field = -1; field <= 4; field++) {
                Check.due("getComponent(" + comp + ", " + field + ")", x.getComponent(comp, field), -1);
            }
        }
        for (int field : new int[] {Check.MIN, -1, 4, 5, Check.MAX}) {
            for (int comp = 0; comp < 4; comp++) {
                Check.due("getComponent(" + comp + ", " + field + ")", x.getComponent(comp, field), -1);
            }
        }
        int[][] due = {{0, 2, 4, 3}, {1, 1, 8, 1}, {0, 0, 5, 0}, {0, 1, 16, 1}};
        for (int comp = 0; comp < 4; comp++) {
            for (int field = 0; field < 4; field++) {
                Check.due("getComponent(" + comp + ", " + field + ")",
                        x.getComponent(comp, field), due[comp][field]);
            }
        }
        Check.due("state after getComponent", Check.state(x), before);
        x.setPolicy(1, 1);
        int[] withoutInterface = {1, 1, -1, -1};
        for (int field = 0; field < 4; field++) {
            Check.due("getComponent(1, " + field + ") without interface",
                    x.getComponent(1, field), withoutInterface[field]);
        }
        Check.finish();
    }
}
