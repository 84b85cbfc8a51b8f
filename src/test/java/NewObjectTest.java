/** Promise 1. */
public final class NewObjectTest {
    public static void main(String[] args) {
        Check check = new Check();
        machineAsAtFirst(check);
        noFaultsRulesFramesOrOperations(check);
        noRequestWasSent(check);
        objectsShareNothing(check);
        check.end();
    }

    private static void machineAsAtFirst(Check check) {
        check.sentence("all are 0 at first");
        LineDebugger x = new LineDebugger();
        check.due("count of PC", x.count(8), 0);
        check.due("PC", Target.pc(x), 0);
        for (int r = 0; r < 8; r++) {
            check.due("register " + r, Target.register(x, r), 0);
        }
        for (int address = 0; address < 64; address++) {
            check.due("word " + address, Target.word(x, address), 0);
        }
        check.due("no steps", x.count(5), 0);
        check.due("no breakpoints", x.count(6), 0);
        check.due("a HALT lies at 0", Target.step(x), 3);
    }

    private static void noFaultsRulesFramesOrOperations(Check check) {
        check.sentence("no faults, rules, frames or operations");
        LineDebugger x = new LineDebugger();
        check.due("no faults", x.count(4), 0);
        check.due("the first fault", x.fault(0), 1);
        check.dueThrows("no rule", Check.ISE, () -> { x.save(0, 0); return 0; });
        check.due("the first rule", x.rule(0, 0, 0, 0), 1);
        check.due("no frames", x.count(7), 0);
        check.dueThrows("no frame to look at", Check.IOOBE, () -> x.frame(0, 0));
        check.dueThrows("no frame to work in", Check.IOOBE, () -> x.evaluate(0));
        check.due("no operations", x.count(9), 0);
        check.due("none to drop", x.drop(), 0);
    }

    private static void noRequestWasSent(Check check) {
        check.sentence("no request was sent");
        LineDebugger x = new LineDebugger();
        for (int what = 0; what <= 3; what++) {
            check.due("count " + what, x.count(what), 0);
        }
        for (int i = -1; i <= 24; i++) {
            check.due("byte " + i, x.byteAt(i), 0);
        }
        Target.pc(x);
        check.due("the first one's number", x.byteAt(0), 1);
    }

    private static void objectsShareNothing(Check check) {
        check.sentence("The machine as at first; no faults, rules, frames or operations");
        String fresh = View.of(new LineDebugger());
        LineDebugger used = new LineDebugger();
        used.load(3, 4);
        used.fault(0);
        used.rule(0, 63, 1, -1);
        Target.putBreakpoint(used, 9);
        Target.setRegister(used, 1, 5);
        used.operation(0, 1);
        used.unwind();
        LineDebugger later = new LineDebugger();
        check.due("a later object", View.of(later), fresh);
        check.due("word 3", Target.word(later, 3), 0);
        check.due("register 1", Target.register(later, 1), 0);
        check.due("rules", later.rule(0, 0, 0, 0), 1);
    }
}
