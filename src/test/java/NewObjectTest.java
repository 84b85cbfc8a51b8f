/** Promise 1. */
public final class NewObjectTest {
    public static void main(String[] args) {
        Check check = new Check();
        showsNothing(check);
        machineIsAllZero(check);
        objectsShareNothing(check);
        check.end();
    }

    private static void showsNothing(Check check) {
        LineDebugger x = new LineDebugger();
        for (int what = 0; what <= 9; what++) {
            check.due("count " + what, x.count(what), 0);
        }
        for (int i = -1; i <= 24; i++) {
            check.due("byte " + i, x.byteAt(i), 0);
        }
        check.dueThrows("no frame", Check.IOOBE, () -> x.frame(0, 0));
        check.dueThrows("no frame to work in", Check.IOOBE, () -> x.evaluate(0));
        check.dueThrows("no rule", Check.ISE, () -> { x.save(0, 0); return 0; });
        check.due("no operations", x.drop(), 0);
        check.due("no faults", x.fault(0), 1);
        check.due("no rules", x.rule(0, 0, 0, 0), 1);
    }

    private static void machineIsAllZero(Check check) {
        LineDebugger x = new LineDebugger();
        for (int r = 0; r < 8; r++) {
            check.due("register " + r, Target.register(x, r), 0);
        }
        for (int address = 0; address < 64; address++) {
            check.due("word " + address, Target.word(x, address), 0);
        }
        check.due("pc", Target.pc(x), 0);
        check.due("a HALT lies at 0", Target.step(x), 3);
    }

    private static void objectsShareNothing(Check check) {
        String fresh = View.of(new LineDebugger());
        LineDebugger used = new LineDebugger();
        used.load(3, 4);
        used.fault(0);
        used.rule(0, 63, 1, -1);
        Target.putBreakpoint(used, 9);
        Target.setRegister(used, 1, 5);
        used.operation(0, 1);
        used.unwind();
        LineDebugger later = new LineDebugger();
        check.due("a later object", View.of(later), fresh);
        check.due("word 3", Target.word(later, 3), 0);
        check.due("register 1", Target.register(later, 1), 0);
        check.due("rules", later.rule(0, 0, 0, 0), 1);
    }
}
