/** Promise 4, and what the stub does for each kind. */
public final class RequestTest {
    public static void main(String[] args) {
        Check check = new Check();
        registers(check);
        words(check);
        pcTakesAnyNumber(check);
        onlyTheLowBitsOfAGo(check);
        wrongKindsAreNotSent(check);
        refusalsChangeNothing(check);
        givenUp(check);
        check.end();
    }

    private static void registers(Check check) {
        LineDebugger x = new LineDebugger();
        int[] values = {1, -1, Integer.MIN_VALUE, Integer.MAX_VALUE, 0x12345678, 255, 256, -256};
        for (int r = 0; r < 8; r++) {
            check.due("write " + r, x.request(1, r, values[r]), 0);
        }
        for (int r = 0; r < 8; r++) {
            check.due("read " + r, x.request(0, r, 99), values[r]);
        }
        check.dueThrows("read 8", Check.IAE, () -> x.request(0, 8, 0));
        check.dueThrows("write 8", Check.IAE, () -> x.request(1, 8, 1));
        check.dueThrows("read -1", Check.IAE, () -> x.request(0, -1, 0));
        check.dueThrows("write 255", Check.IAE, () -> x.request(1, 255, 0));
    }

    private static void words(Check check) {
        LineDebugger x = new LineDebugger();
        check.due("write 0", x.request(3, 0, -7), 0);
        check.due("write 63", x.request(3, 63, 0x7fedcba9), 0);
        check.due("read 0", x.request(2, 0, 5), -7);
        check.due("read 63", x.request(2, 63, 0), 0x7fedcba9);
        check.due("read 1", x.request(2, 1, 0), 0);
        check.dueThrows("read 64", Check.IAE, () -> x.request(2, 64, 0));
        check.dueThrows("write 64", Check.IAE, () -> x.request(3, 64, 0));
        check.dueThrows("read -1", Check.IAE, () -> x.request(2, -1, 0));
    }

    private static void pcTakesAnyNumber(Check check) {
        LineDebugger x = new LineDebugger();
        for (int pc : new int[] {0, 63, 64, -1, Integer.MAX_VALUE, Integer.MIN_VALUE}) {
            check.due("set " + pc, x.request(9, 77, pc), 0);
            check.due("get " + pc, x.request(8, 99, 5), pc);
            check.due("count " + pc, x.count(8), pc);
        }
    }

    private static void onlyTheLowBitsOfAGo(Check check) {
        LineDebugger x = new LineDebugger();
        x.request(1, 3, 33);
        check.due("256 + 3", x.request(0, 259, 0), 33);
        check.due("-253", x.request(0, -253, 0), 33);
        x.request(3, 256 + 63, 44);
        check.due("word 63", x.request(2, 63, 0), 44);
        check.due("a breakpoint at 512", x.request(4, 512, 0), 0);
        check.due("is one at 0", x.request(5, 0, 0), 0);
    }

    private static void wrongKindsAreNotSent(Check check) {
        LineDebugger x = new LineDebugger();
        x.request(1, 2, 3);
        Target.tellFaults(x, 1);
        String before = View.of(x);
        for (int kind : new int[] {-1, 10, 256, Integer.MIN_VALUE, Integer.MAX_VALUE}) {
            check.dueThrows("kind " + kind, Check.IAE, () -> x.request(kind, 0, 0));
        }
        check.due("nothing was sent", View.of(x), before);
    }

    private static void refusalsChangeNothing(Check check) {
        LineDebugger x = new LineDebugger();
        Target.loadFrom(x, 0, Target.instruction(1, 0, 0, 0, 5), Target.HALT);
        check.dueThrows("-1 steps", Check.IAE, () -> Target.run(x, -1));
        check.dueThrows("201 steps", Check.IAE, () -> Target.run(x, 201));
        check.dueThrows("no breakpoint", Check.IAE, () -> Target.takeBreakpoint(x, 0));
        check.dueThrows("no word for one", Check.IAE, () -> Target.putBreakpoint(x, 64));
        check.dueThrows("no word to take one from", Check.IAE, () -> Target.takeBreakpoint(x, 255));
        check.due("pc", x.count(8), 0);
        check.due("steps", x.count(5), 0);
        check.due("breakpoints", x.count(6), 0);
        check.due("they went over the line", x.count(0), 5);
        check.due("status", x.byteAt(17), 1);
        check.due("value", x.byteAt(18) + x.byteAt(19) + x.byteAt(20) + x.byteAt(21), 0);
        check.due("the next one is done", Target.step(x), 1);
        check.due("with status 0", x.byteAt(17), 0);
    }

    private static void givenUp(Check check) {
        LineDebugger x = new LineDebugger();
        Target.tellFaults(x, 1, 1, 1, 1);
        check.dueThrows("four lost", Check.UOE, () -> x.request(1, 0, 5));
        check.due("register", Target.register(x, 0), 0);
        Target.tellFaults(x, 1, 1, 1);
        check.due("three lost", x.request(1, 0, 6), 0);
        check.due("it was done", Target.register(x, 0), 6);
        Target.tellFaults(x, 0, 1, 0, 1, 0, 1, 0, 1);
        check.dueThrows("four answers lost", Check.UOE, () -> x.request(1, 0, 7));
        check.due("but it was done", Target.register(x, 0), 7);
        Target.tellFaults(x, 1, 1, 1, 1);
        check.dueThrows("given up before it can be refused", Check.UOE, () -> x.request(0, 8, 0));
    }
}
