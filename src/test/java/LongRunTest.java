/** The limit of the document's beginning: an object holds for 512 calls, the dearest ones too. */
public final class LongRunTest {
    private static final int CALLS = 512;

    public static void main(String[] args) {
        Check check = new Check();
        check.sentence("An object is used for at most 512 calls after it has been made");
        unwindings(check);
        runs(check);
        expressions(check);
        faults(check);
        check.end();
    }

    private static void unwindings(Check check) {
        LineDebugger x = new LineDebugger();
        x.rule(0, 0, 1, 15);
        int[] saved = {0, 1, 2, 3, 4, 5, 7};
        for (int register : saved) {
            x.save(register, register);
        }
        int calls = CALLS - 8 - 2;
        for (int i = 0; i < calls; i++) {
            check.due("frames", x.unwind(), 8);
        }
        int requests = calls * (9 + 7 * 8);
        check.due("requests", x.count(0), requests);
        check.due("the latest one's number", x.byteAt(0), (requests - 1) % 255 + 1);
    }

    private static void runs(Check check) {
        LineDebugger x = new LineDebugger();
        Target.loadFrom(x, 0, Target.ADD_ONE, Target.jump(0));
        int calls = CALLS - 2 - 2;
        for (int i = 0; i < calls; i++) {
            check.due("stop", Target.run(x, 200), 5);
        }
        check.due("steps", x.count(5), 200 * calls);
        check.due("register", Target.register(x, 0), 100 * calls);
    }

    private static void expressions(Check check) {
        LineDebugger x = new LineDebugger();
        x.load(0, 0);
        x.unwind();
        x.operation(0, 0);
        for (int i = 2; i <= 20; i++) {
            x.operation(2, 0);
        }
        int calls = CALLS - 22 - 1;
        for (int i = 0; i < calls; i++) {
            check.due("worked out", x.evaluate(0), 0);
        }
        check.due("requests", x.count(0), 9 + 19 * calls);
    }

    private static void faults(Check check) {
        LineDebugger x = new LineDebugger();
        int calls = (CALLS - 2) / 5;
        for (int i = 0; i < calls; i++) {
            Target.tellFaults(x, 1, 9, 1, 9);
            check.dueThrows("given up", Check.UOE, () -> Target.pc(x));
        }
        check.due("requests", x.count(0), calls);
        check.due("frames", x.count(1), 4 * calls);
    }
}
