/** Promise 13. */
public final class CountTest {
    public static void main(String[] args) {
        Check check = new Check();
        eachNumber(check);
        anyOther(check);
        frameCounts(check);
        check.end();
    }

    private static void counts(Check check, String what, LineDebugger x, int... want) {
        for (int i = 0; i < want.length; i++) {
            check.due(what + ": count " + i, x.count(i), want[i]);
        }
    }

    private static void eachNumber(Check check) {
        LineDebugger x = new LineDebugger();
        Target.loadFrom(x, 0, Target.instruction(2, 0, 0, 0, 1), Target.instruction(2, 0, 0, 0, 1));
        counts(check, "load", x, 0, 0, 0, 0, 0, 0, 0, 0, 0, 0);
        Target.tellFaults(x, 1, 9, 0, 1, 0, 0, 0);
        counts(check, "faults", x, 0, 0, 0, 0, 7, 0, 0, 0, 0, 0);
        Target.run(x, 9);
        counts(check, "a run to a HALT", x, 1, 4, 2, 1, 1, 2, 0, 0, 2, 0);
        Target.putBreakpoint(x, 30);
        counts(check, "a breakpoint", x, 2, 5, 3, 1, 0, 2, 1, 0, 2, 0);
        x.rule(2, 2, 0, -1);
        x.unwind();
        counts(check, "an unwinding", x, 11, 14, 12, 1, 0, 2, 1, 2, 2, 0);
        x.operation(0, 30);
        x.operation(2, 0);
        x.evaluate(1);
        counts(check, "an expression", x, 12, 15, 13, 1, 0, 2, 1, 2, 2, 2);
        check.dueThrows("refused", Check.IAE, () -> Target.takeBreakpoint(x, 31));
        counts(check, "a refusal", x, 13, 16, 14, 1, 0, 2, 1, 2, 2, 2);
        check.dueThrows("wrong", Check.IAE, () -> x.request(10, 0, 0));
        counts(check, "a wrong kind", x, 13, 16, 14, 1, 0, 2, 1, 2, 2, 2);
        Target.setPc(x, -3);
        counts(check, "PC", x, 14, 17, 15, 1, 0, 2, 1, 2, -3, 2);
    }

    private static void anyOther(Check check) {
        LineDebugger x = new LineDebugger();
        for (int what : new int[] {-1, 10, 11, Integer.MIN_VALUE, Integer.MAX_VALUE}) {
            check.due("count " + what, x.count(what), -1);
        }
    }

    private static void frameCounts(Check check) {
        LineDebugger x = new LineDebugger();
        Target.tellFaults(x, 1, 1, 1, 1);
        check.dueThrows("given up", Check.UOE, () -> Target.pc(x));
        counts(check, "lost frames are sent, not thrown away", x, 1, 4, 0, 0, 0);
        Target.tellFaults(x, 0, 2, 0, 3, 0, 4, 0, 5);
        check.dueThrows("given up", Check.UOE, () -> Target.pc(x));
        counts(check, "spoilt answers are thrown away", x, 2, 8, 4, 4, 0);
    }
}
