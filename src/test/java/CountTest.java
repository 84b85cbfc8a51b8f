/** Promise 13. */
public final class CountTest {
    public static void main(String[] args) {
        Check check = new Check();
        requestsNotHowOften(check);
        framesOfTheDebugger(check);
        framesOfTheStub(check);
        framesThrownAway(check);
        faultsThatWait(check);
        stepsWithStop1(check);
        breakpoints(check);
        framesOfTheLatestUnwinding(check);
        machinesPc(check);
        operations(check);
        anyOther(check);
        allAtOnce(check);
        check.end();
    }

    private static void requestsNotHowOften(Check check) {
        check.sentence("0 the requests sent (not how often)");
        LineDebugger x = new LineDebugger();
        Target.tellFaults(x, 1, 9, 0, 1);
        Target.pc(x);
        check.due("one, sent four times", x.count(0), 1);
        Target.tellFaults(x, 1, 1, 1, 1);
        check.dueThrows("given up", Check.UOE, () -> Target.pc(x));
        check.due("a given up one counts", x.count(0), 2);
        check.dueThrows("refused", Check.IAE, () -> Target.word(x, 64));
        check.due("a refused one counts", x.count(0), 3);
        check.dueThrows("wrong", Check.IAE, () -> x.request(-1, 0, 0));
        check.due("a wrong one was not sent", x.count(0), 3);
        x.unwind();
        check.due("an unwinding's count", x.count(0), 12);
        Target.giveOperations(x, new int[] {0, 3}, new int[] {2});
        x.evaluate(0);
        check.due("an expression's count", x.count(0), 13);
    }

    private static void framesOfTheDebugger(Check check) {
        check.sentence("1 the frames sent by the debugger");
        LineDebugger x = new LineDebugger();
        Target.pc(x);
        check.due("one", x.count(1), 1);
        Target.tellFaults(x, 1, 9, 0, 1);
        Target.pc(x);
        check.due("four more: lost, spoilt, not answered, answered", x.count(1), 5);
        Target.tellFaults(x, 1, 1, 1, 1);
        check.dueThrows("given up", Check.UOE, () -> Target.pc(x));
        check.due("four more", x.count(1), 9);
    }

    private static void framesOfTheStub(Check check) {
        check.sentence("2 those sent by the stub");
        LineDebugger x = new LineDebugger();
        Target.tellFaults(x, 1, 9, 0, 1);
        Target.pc(x);
        check.due("two: a lost one, and its kept answer", x.count(2), 2);
        Target.tellFaults(x, 1, 1, 1, 1);
        check.dueThrows("given up", Check.UOE, () -> Target.pc(x));
        check.due("none without a request", x.count(2), 2);
        check.dueThrows("refused", Check.IAE, () -> Target.word(x, 64));
        check.due("a refusal is one", x.count(2), 3);
    }

    private static void framesThrownAway(Check check) {
        check.sentence("3 frames thrown away");
        LineDebugger x = new LineDebugger();
        Target.tellFaults(x, 1, 0, 1);
        Target.pc(x);
        check.due("lost ones are not", x.count(3), 0);
        Target.tellFaults(x, 2, 0, 3);
        Target.pc(x);
        check.due("a request and an answer", x.count(3), 2);
        Target.tellFaults(x, 0, 2, 0, 3, 0, 4, 0, 5);
        check.dueThrows("given up", Check.UOE, () -> Target.pc(x));
        check.due("four answers", x.count(3), 6);
    }

    private static void faultsThatWait(Check check) {
        check.sentence("4 faults that wait");
        LineDebugger x = new LineDebugger();
        for (int i = 1; i <= 40; i++) {
            x.fault(0);
            check.due("count", x.count(4), i);
        }
        for (int i = 1; i <= 20; i++) {
            Target.pc(x);
            check.due("two fewer", x.count(4), 40 - 2 * i);
        }
        Target.pc(x);
        check.due("not below 0", x.count(4), 0);
    }

    private static void stepsWithStop1(Check check) {
        check.sentence("5 steps that the machine made with stop 1");
        LineDebugger x = new LineDebugger();
        Target.loadFrom(x, 0, Target.ADD_ONE, Target.ADD_ONE, Target.ADD_ONE);
        Target.step(x);
        check.due("one", x.count(5), 1);
        Target.run(x, 9);
        check.due("two more to a HALT", x.count(5), 3);
        Target.step(x);
        Target.run(x, 9);
        check.due("none at a HALT", x.count(5), 3);
        Target.setPc(x, 64);
        Target.step(x);
        check.due("none by a fault", x.count(5), 3);
        Target.setPc(x, 0);
        Target.run(x, 0);
        check.due("none by no steps", x.count(5), 3);
    }

    private static void breakpoints(Check check) {
        check.sentence("6 breakpoints");
        LineDebugger x = new LineDebugger();
        x.load(9, Target.BREAK);
        check.due("the program's own BREAK is none", x.count(6), 0);
        for (int i = 1; i <= 4; i++) {
            Target.putBreakpoint(x, i);
            check.due("so many", x.count(6), i);
        }
        for (int i = 1; i <= 4; i++) {
            Target.takeBreakpoint(x, i);
            check.due("so many left", x.count(6), 4 - i);
        }
    }

    private static void framesOfTheLatestUnwinding(Check check) {
        check.sentence("7 frames of the latest unwinding");
        LineDebugger x = new LineDebugger();
        check.due("none yet", x.count(7), 0);
        x.unwind();
        check.due("one", x.count(7), 1);
        x.rule(0, 0, 0, -1);
        check.due("a rule alone changes nothing", x.count(7), 1);
        x.unwind();
        check.due("eight", x.count(7), 8);
        Target.tellFaults(x, 1, 1, 1, 1);
        check.dueThrows("given up", Check.UOE, x::unwind);
        check.due("still eight", x.count(7), 8);
        Target.setPc(x, 1);
        x.unwind();
        check.due("one again", x.count(7), 1);
    }

    private static void machinesPc(Check check) {
        check.sentence("8 the machine's PC");
        LineDebugger x = new LineDebugger();
        x.load(0, Target.jump(-7));
        Target.step(x);
        check.due("by a step", x.count(8), -7);
        for (int pc : new int[] {-1, 64, Target.LOWEST, Target.HIGHEST}) {
            Target.setPc(x, pc);
            check.due("as set", x.count(8), pc);
        }
        Target.tellFaults(x, 0, 1, 0, 1, 0, 1, 0, 1);
        check.dueThrows("given up, but done", Check.UOE, () -> Target.setPc(x, 5));
        check.due("the machine's own", x.count(8), 5);
    }

    private static void operations(Check check) {
        check.sentence("9 operations");
        LineDebugger x = new LineDebugger();
        for (int i = 1; i <= 20; i++) {
            x.operation(0, i);
            check.due("so many", x.count(9), i);
        }
        x.drop();
        check.due("none", x.count(9), 0);
    }

    private static void anyOther(Check check) {
        check.sentence("-1 for any other number.");
        LineDebugger x = new LineDebugger();
        for (int what : new int[] {-1, -2, 10, 11, 256, Target.LOWEST, Target.HIGHEST}) {
            check.due("count " + what, x.count(what), -1);
        }
    }

    private static void counts(Check check, String what, LineDebugger x, int... want) {
        for (int i = 0; i < want.length; i++) {
            check.due(what + ": count " + i, x.count(i), want[i]);
        }
    }

    private static void allAtOnce(Check check) {
        check.sentence("0 the requests sent (not how often), 1 the frames sent by the debugger");
        LineDebugger x = new LineDebugger();
        Target.loadFrom(x, 0, Target.ADD_ONE, Target.ADD_ONE);
        counts(check, "load", x, 0, 0, 0, 0, 0, 0, 0, 0, 0, 0);
        Target.tellFaults(x, 1, 9, 0, 1, 0, 0, 0);
        counts(check, "faults", x, 0, 0, 0, 0, 7, 0, 0, 0, 0, 0);
        Target.run(x, 9);
        counts(check, "a run to a HALT", x, 1, 4, 2, 1, 1, 2, 0, 0, 2, 0);
        Target.putBreakpoint(x, 30);
        counts(check, "a breakpoint", x, 2, 5, 3, 1, 0, 2, 1, 0, 2, 0);
        x.rule(2, 2, 0, -1);
        x.unwind();
        counts(check, "an unwinding", x, 11, 14, 12, 1, 0, 2, 1, 2, 2, 0);
        Target.giveOperations(x, new int[] {0, 30}, new int[] {2});
        x.evaluate(1);
        counts(check, "an expression", x, 12, 15, 13, 1, 0, 2, 1, 2, 2, 2);
    }
}
