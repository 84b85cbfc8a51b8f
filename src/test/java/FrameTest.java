/** Promise 9. */
public final class FrameTest {
    public static void main(String[] args) {
        Check check = new Check();
        LineDebugger x = new LineDebugger();
        check.dueThrows("before an unwinding", Check.IOOBE, () -> x.frame(0, 8));
        x.rule(3, 3, 5, -1);
        for (int r = 0; r < 8; r++) {
            Target.setRegister(x, r, 100 + r);
        }
        Target.setPc(x, 3);
        x.unwind();
        for (int r = 0; r < 8; r++) {
            check.due("frame 0, register " + r, x.frame(0, r), 100 + r);
            check.due("frame 1, register " + r, x.frame(1, r), r == 6 ? 111 : 100 + r);
        }
        check.due("frame 0, PC", x.frame(0, 8), 3);
        check.due("frame 1, PC", x.frame(1, 8), 107);
        String before = View.of(x);
        for (int frame : new int[] {-1, 2, 7, 8, Integer.MIN_VALUE, Integer.MAX_VALUE}) {
            check.dueThrows("frame " + frame, Check.IOOBE, () -> x.frame(frame, 0));
        }
        for (int r : new int[] {-1, 9, Integer.MIN_VALUE, Integer.MAX_VALUE}) {
            check.dueThrows("register " + r, Check.IOOBE, () -> x.frame(0, r));
        }
        check.due("it kept the state", View.of(x), before);
        check.end();
    }
}
