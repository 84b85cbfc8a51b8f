/** Sending again, doing once, and throwing away (Terms: THE LINE), by promise 4 and its counts. */
public final class LineTest {
    private static final int ADD_ONE = Target.instruction(2, 0, 0, 0, 1);

    public static void main(String[] args) {
        Check check = new Check();
        everyFaultOfOneFrame(check);
        doneOnlyOnce(check);
        keptAnswerComesAgain(check);
        doneThoughGivenUp(check);
        numbersGoRound(check);
        check.end();
    }

    private static void line(Check check, String what, LineDebugger x, int sent, int answers, int thrown) {
        check.due(what + ": frames of the debugger", x.count(1), sent);
        check.due(what + ": frames of the stub", x.count(2), answers);
        check.due(what + ": thrown away", x.count(3), thrown);
        check.due(what + ": faults that wait", x.count(4), 0);
    }

    private static LineDebugger counter() {
        LineDebugger x = new LineDebugger();
        for (int i = 0; i < 20; i++) {
            x.load(i, ADD_ONE);
        }
        return x;
    }

    private static void everyFaultOfOneFrame(Check check) {
        for (int fault = 0; fault <= 140; fault++) {
            LineDebugger spoiltRequest = counter();
            spoiltRequest.fault(fault);
            check.due("request with fault " + fault, Target.step(spoiltRequest), 1);
            boolean spoilt = fault >= 2;
            line(check, "request with fault " + fault, spoiltRequest, fault == 0 ? 1 : 2, 1, spoilt ? 1 : 0);
            check.due("steps", spoiltRequest.count(5), 1);

            LineDebugger spoiltAnswer = counter();
            Target.tellFaults(spoiltAnswer, 0, fault);
            check.due("answer with fault " + fault, Target.step(spoiltAnswer), 1);
            int times = fault == 0 ? 1 : 2;
            line(check, "answer with fault " + fault, spoiltAnswer, times, times, spoilt ? 1 : 0);
            check.due("steps", spoiltAnswer.count(5), 1);
        }
        LineDebugger x = counter();
        Target.tellFaults(x, Integer.MAX_VALUE, 0, Integer.MAX_VALUE);
        check.due("the highest fault", Target.step(x), 1);
        line(check, "the highest fault", x, 3, 2, 2);
    }

    private static void doneOnlyOnce(Check check) {
        LineDebugger x = counter();
        Target.tellFaults(x, 0, 1, 0, 7, 1, 0, 0);
        check.due("in the fourth try", Target.step(x), 1);
        line(check, "in the fourth try", x, 4, 3, 1);
        check.due("requests", x.count(0), 1);
        check.due("steps", x.count(5), 1);
        check.due("register", Target.register(x, 0), 1);

        LineDebugger y = new LineDebugger();
        Target.tellFaults(y, 0, 1);
        check.due("a breakpoint put once", Target.putBreakpoint(y, 5), 0);
        check.due("one", y.count(6), 1);
        Target.tellFaults(y, 0, 2);
        check.dueThrows("one refused once", Check.IAE, () -> Target.putBreakpoint(y, 5));
        Target.tellFaults(y, 0, 1, 0, 1, 0, 1);
        check.due("one taken once", Target.takeBreakpoint(y, 5), 0);
        check.due("none", y.count(6), 0);
    }

    private static void keptAnswerComesAgain(Check check) {
        LineDebugger x = counter();
        Target.setRegister(x, 3, -123456789);
        Target.tellFaults(x, 0, 40, 0, 1);
        check.due("a value from the kept answer", Target.register(x, 3), -123456789);
        check.due("frames of the stub", x.count(2), 4);
        Target.tellFaults(x, 0, 1);
        check.due("the stop from the kept answer", Target.run(x, 3), 5);
        check.due("steps", x.count(5), 3);
    }

    private static void doneThoughGivenUp(Check check) {
        LineDebugger x = counter();
        Target.tellFaults(x, 1, 9, 0, 1, 0, 9);
        check.dueThrows("given up", Check.UOE, () -> Target.step(x));
        line(check, "given up", x, 4, 2, 2);
        check.due("requests", x.count(0), 1);
        check.due("but done, once", x.count(5), 1);
        check.due("the next one is another", Target.step(x), 1);
        check.due("done too", x.count(5), 2);
        check.due("its number", x.byteAt(0), 2);
        Target.tellFaults(x, 5, 6, 7, 8);
        check.dueThrows("all spoilt", Check.UOE, () -> Target.step(x));
        line(check, "all spoilt", x, 9, 3, 6);
        check.due("not done", x.count(5), 2);
    }

    private static void numbersGoRound(Check check) {
        LineDebugger x = counter();
        for (int i = 1; i <= 254; i++) {
            Target.pc(x);
        }
        check.due("number 254", x.byteAt(0), 254);
        Target.setPc(x, 0);
        check.due("number 255", x.byteAt(0), 255);
        check.due("the one after it is done", Target.step(x), 1);
        check.due("number 1 again", x.byteAt(0), 1);
        check.due("and answered so", x.byteAt(16), 1);
        Target.step(x);
        check.due("number 2 again", x.byteAt(0), 2);
        check.due("steps", x.count(5), 2);
        check.due("requests", x.count(0), 257);
    }
}
