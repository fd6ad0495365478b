public final class Promise09GetTimeTest {
    public static void main(String[] args) {
        PeriodicResource x = Check.admittedObject();
        Check.due("getTime()", x.getTime(), 0);
        int[] before = Check.state(x);
        x.getTime();
        Check.due("state after getTime()", Check.state(x), before);
        for (int i = 1; i <= 100; i++) {
            x.run(1);
            Check.due("getTime()", x.getTime(), i);
        }
        x.run(5);
        Check.due("getTime() at the horizon", x.getTime(), 100);
        x.addTask(0, 0, 0);
        Check.due("getTime() after a refused change", x.getTime(), 100);
        x.admit();
        Check.due("getTime() after admit()", x.getTime(), 0);
        Check.finish();
    }
}
