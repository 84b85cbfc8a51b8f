/** The stub's breakpoints (Terms: THE STUB), by kinds 2 to 7 of promise 4. */
public final class BreakpointTest {
    private static final int ADD_ONE = Target.instruction(2, 0, 0, 0, 1);

    public static void main(String[] args) {
        Check check = new Check();
        atMostFour(check);
        liesUnseen(check);
        runsStopThere(check);
        stepsGoPast(check);
        aLoopComesBackToIt(check);
        programsOwnFault(check);
        theWordUnderItIsDone(check);
        anInstructionThatReachesItself(check);
        underABreak(check);
        check.end();
    }

    private static void atMostFour(Check check) {
        LineDebugger x = new LineDebugger();
        for (int address : new int[] {0, 63, 10, 20}) {
            check.due("put " + address, Target.putBreakpoint(x, address), 0);
        }
        check.due("four", x.count(6), 4);
        check.dueThrows("a fifth", Check.IAE, () -> Target.putBreakpoint(x, 30));
        check.dueThrows("one twice", Check.IAE, () -> Target.putBreakpoint(x, 10));
        check.due("still four", x.count(6), 4);
        check.due("word 30", Target.word(x, 30), 0);
        check.due("take 10", Target.takeBreakpoint(x, 10), 0);
        check.due("three", x.count(6), 3);
        check.dueThrows("take 10 again", Check.IAE, () -> Target.takeBreakpoint(x, 10));
        check.dueThrows("three, but one there", Check.IAE, () -> Target.putBreakpoint(x, 63));
        check.due("put 30", Target.putBreakpoint(x, 30), 0);
        check.due("four again", x.count(6), 4);
    }

    private static void liesUnseen(Check check) {
        LineDebugger x = new LineDebugger();
        x.load(10, 1234);
        Target.putBreakpoint(x, 10);
        check.due("read", Target.word(x, 10), 1234);
        check.due("write", x.request(3, 10, 5678), 0);
        check.due("read what was written", Target.word(x, 10), 5678);
        Target.loadFrom(x, 0, Target.instruction(7, 4, 0, 0, 10), Target.HALT);
        Target.run(x, 5);
        check.due("a LOAD sees the 15", Target.register(x, 4), 15);
        Target.takeBreakpoint(x, 10);
        check.due("what was written comes back", Target.word(x, 10), 5678);
        Target.setPc(x, 0);
        Target.run(x, 5);
        check.due("and a LOAD sees it", Target.register(x, 4), 5678);
    }

    private static void runsStopThere(Check check) {
        LineDebugger x = new LineDebugger();
        Target.loadFrom(x, 0, ADD_ONE, ADD_ONE, ADD_ONE, ADD_ONE, Target.HALT);
        Target.putBreakpoint(x, 2);
        check.due("up to it", Target.run(x, 100), 2);
        check.due("pc", x.count(8), 2);
        check.due("register", Target.register(x, 0), 2);
        check.due("on from it", Target.run(x, 100), 3);
        check.due("pc", x.count(8), 4);
        check.due("register", Target.register(x, 0), 4);
        Target.setPc(x, 1);
        check.due("the last step comes to it", Target.run(x, 1), 2);
        check.due("steps", x.count(5), 5);
        check.due("no step from it", Target.run(x, 0), 5);
    }

    private static void stepsGoPast(Check check) {
        LineDebugger x = new LineDebugger();
        Target.loadFrom(x, 0, ADD_ONE, ADD_ONE, ADD_ONE, Target.HALT);
        Target.putBreakpoint(x, 0);
        Target.putBreakpoint(x, 1);
        check.due("a step from one to the next", Target.step(x), 1);
        check.due("pc", x.count(8), 1);
        check.due("a step from that", Target.step(x), 1);
        check.due("register", Target.register(x, 0), 2);
        Target.setPc(x, 0);
        check.due("a run from one to the next", Target.run(x, 50), 2);
        check.due("pc", x.count(8), 1);
        check.due("they stay", x.count(6), 2);
        Target.setPc(x, 3);
        Target.takeBreakpoint(x, 0);
        Target.putBreakpoint(x, 3);
        check.due("a HALT under one", Target.step(x), 3);
        check.due("a HALT under one by a run", Target.run(x, 4), 3);
    }

    private static void aLoopComesBackToIt(Check check) {
        LineDebugger x = new LineDebugger();
        Target.loadFrom(x, 0, Target.instruction(9, 0, 0, 0, 0));
        Target.putBreakpoint(x, 0);
        check.due("once round", Target.run(x, 100), 2);
        check.due("steps", x.count(5), 1);
    }

    private static void programsOwnFault(Check check) {
        LineDebugger x = new LineDebugger();
        int store = Target.instruction(8, 1, 0, 0, 3);
        Target.loadFrom(x, 0, store, Target.instruction(2, 2, 2, 0, 1), ADD_ONE, 4000, Target.HALT);
        Target.setRegister(x, 1, Target.instruction(1, 5, 0, 0, 55));
        Target.putBreakpoint(x, 3);
        check.due("a STORE goes over it", Target.run(x, 100), 3);
        check.due("and what it stored was done", Target.register(x, 5), 55);
        check.due("the breakpoint is still told", x.count(6), 1);
        check.due("the kept word is as before", Target.word(x, 3), 4000);
        check.dueThrows("it is there already", Check.IAE, () -> Target.putBreakpoint(x, 3));
        Target.takeBreakpoint(x, 3);
        check.due("the word that was there comes back", Target.word(x, 3), 4000);
    }

    private static void theWordUnderItIsDone(Check check) {
        LineDebugger x = new LineDebugger();
        Target.loadFrom(x, 0, ADD_ONE, Target.HALT);
        Target.putBreakpoint(x, 0);
        x.load(0, Target.HALT);
        check.due("whatever lies there", Target.step(x), 1);
        check.due("register", Target.register(x, 0), 1);
        Target.setPc(x, 0);
        x.request(3, 0, Target.instruction(1, 0, 0, 0, 70));
        check.due("a word written under it is done", Target.run(x, 5), 3);
        check.due("register", Target.register(x, 0), 70);
    }

    /** The document leaves open whether the 15 is out of the way here: it is taken to lie there. */
    private static void anInstructionThatReachesItself(Check check) {
        LineDebugger x = new LineDebugger();
        x.load(0, Target.instruction(7, 1, 0, 0, 0));
        Target.putBreakpoint(x, 0);
        check.due("a LOAD of itself", Target.step(x), 1);
        check.due("sees the 15", Target.register(x, 1), 15);

        LineDebugger y = new LineDebugger();
        int store = Target.instruction(8, 1, 0, 0, 0);
        y.load(0, store);
        Target.putBreakpoint(y, 0);
        check.due("a STORE to itself", Target.step(y), 1);
        check.due("goes over it", Target.word(y, 0), store);
        Target.setPc(y, 1);
        y.load(1, Target.instruction(9, 0, 0, 0, 0));
        check.due("so that a HALT lies there", Target.run(y, 9), 3);
    }

    private static void underABreak(Check check) {
        LineDebugger x = new LineDebugger();
        int ownBreak = Target.instruction(15, 1, 0, 0, 6);
        x.load(0, ownBreak);
        Target.putBreakpoint(x, 0);
        check.due("the program's own BREAK under it", Target.step(x), 2);
        Target.takeBreakpoint(x, 0);
        check.due("comes back", Target.word(x, 0), ownBreak);
    }
}
