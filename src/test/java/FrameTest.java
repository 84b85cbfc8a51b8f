/** Promise 9. */
public final class FrameTest {
    public static void main(String[] args) {
        Check check = new Check();
        registersAndPc(check);
        beforeAnUnwinding(check);
        noSuchFrame(check);
        noSuchRegister(check);
        ofTheLatestUnwinding(check);
        check.end();
    }

    /** Two frames: registers 100 to 107, and PC 3; a rule has it, and its size is 5. */
    private static LineDebugger withTwo() {
        LineDebugger x = new LineDebugger();
        x.rule(3, 3, 5, -1);
        for (int r = 0; r < 8; r++) {
            Target.setRegister(x, r, 100 + r);
        }
        Target.setPc(x, 3);
        x.unwind();
        return x;
    }

    private static void registersAndPc(Check check) {
        check.sentence("Register r (0 .. 7) of a frame of the latest unwinding, or, with 8, its PC.");
        LineDebugger x = withTwo();
        for (int r = 0; r < 8; r++) {
            check.due("frame 0, register " + r, x.frame(0, r), 100 + r);
            check.due("frame 1, register " + r, x.frame(1, r), r == 6 ? 111 : 100 + r);
        }
        check.due("frame 0, PC", x.frame(0, 8), 3);
        check.due("frame 1, PC", x.frame(1, 8), 107);
    }

    private static void beforeAnUnwinding(Check check) {
        check.sentence("Throws IndexOutOfBoundsException when there is no such frame");
        LineDebugger x = new LineDebugger();
        check.dueThrows("frame 0, PC", Check.IOOBE, () -> x.frame(0, 8));
        check.dueThrows("frame 0, register 0", Check.IOOBE, () -> x.frame(0, 0));
    }

    private static void noSuchFrame(Check check) {
        check.sentence("Throws IndexOutOfBoundsException when there is no such frame or register.");
        LineDebugger x = withTwo();
        String before = View.of(x);
        for (int frame : new int[] {-1, 2, 7, 8, 256, Target.LOWEST, Target.HIGHEST}) {
            check.dueThrows("frame " + frame, Check.IOOBE, () -> x.frame(frame, 0));
            check.dueThrows("frame " + frame + ", PC", Check.IOOBE, () -> x.frame(frame, 8));
        }
        check.due("it kept the state", View.of(x), before);
        LineDebugger y = new LineDebugger();
        y.rule(0, 0, 0, -1);
        check.due("eight", y.unwind(), 8);
        check.due("the last of eight", y.frame(7, 8), 0);
        check.dueThrows("a ninth", Check.IOOBE, () -> y.frame(8, 8));
    }

    private static void noSuchRegister(Check check) {
        check.sentence("no such frame or register");
        LineDebugger x = withTwo();
        String before = View.of(x);
        for (int r : new int[] {-1, 9, 10, 256, Target.LOWEST, Target.HIGHEST}) {
            check.dueThrows("register " + r, Check.IOOBE, () -> x.frame(0, r));
            check.dueThrows("register " + r + " of no frame", Check.IOOBE, () -> x.frame(2, r));
        }
        check.due("it kept the state", View.of(x), before);
    }

    private static void ofTheLatestUnwinding(Check check) {
        check.sentence("of a frame of the latest unwinding");
        LineDebugger x = withTwo();
        Target.setRegister(x, 2, -1);
        Target.setPc(x, 4);
        int requests = x.count(0);
        check.due("not what the machine has now", x.frame(0, 2), 102);
        check.due("nor its PC", x.frame(0, 8), 3);
        check.due("nothing was sent", x.count(0), requests);
        x.unwind();
        check.due("the later unwinding's", x.frame(0, 2), -1);
        check.dueThrows("it has one frame", Check.IOOBE, () -> x.frame(1, 0));
    }
}
