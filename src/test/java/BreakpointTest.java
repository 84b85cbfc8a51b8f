/** The stub's breakpoints (Terms: THE STUB), by kinds 2 to 7 of promise 4. */
public final class BreakpointTest {
    private static final int ADD_ONE = Target.ADD_ONE;

    public static void main(String[] args) {
        Check check = new Check();
        putAtEveryWord(check);
        atMostFour(check);
        refusedWhenThereAreFour(check);
        refusedWhenThereAlready(check);
        refusedWhenNotThere(check);
        the15LiesInTheMemory(check);
        aLoadSeesThe15(check);
        aStoreGoesOverIt(check);
        readUnderIt(check);
        writtenUnderIt(check);
        takenAway(check);
        aStepFromIt(check);
        aRunFromIt(check);
        aRunToIt(check);
        theWordThatWasThereIsDone(check);
        anInstructionThatReachesItself(check);
        check.end();
    }

    private static void putAtEveryWord(Check check) {
        check.sentence("4 a breakpoint is put at a");
        LineDebugger x = new LineDebugger();
        for (int address = 0; address < 64; address++) {
            check.due("put at " + address, Target.putBreakpoint(x, address), 0);
            check.due("one", x.count(6), 1);
            check.due("away from " + address, Target.takeBreakpoint(x, address), 0);
        }
        for (int address : new int[] {64, 255, -1}) {
            check.dueThrows("none at " + address, Check.IAE, () -> Target.putBreakpoint(x, address));
        }
        check.due("none", x.count(6), 0);
    }

    private static LineDebugger withFour() {
        LineDebugger x = new LineDebugger();
        for (int address : new int[] {0, 63, 10, 20}) {
            x.load(address, 1000 + address);
            Target.putBreakpoint(x, address);
        }
        return x;
    }

    private static void atMostFour(Check check) {
        check.sentence("It has at most four BREAKPOINTS");
        LineDebugger x = new LineDebugger();
        int count = 0;
        for (int address : new int[] {0, 63, 10, 20}) {
            check.due("one at " + address, Target.putBreakpoint(x, address), 0);
            count++;
            check.due("so many", x.count(6), count);
        }
        check.dueThrows("a fifth", Check.IAE, () -> Target.putBreakpoint(x, 30));
        check.due("still four", x.count(6), 4);
    }

    private static void refusedWhenThereAreFour(Check check) {
        check.sentence("there are four");
        LineDebugger x = withFour();
        x.load(30, 77);
        check.dueThrows("a fifth", Check.IAE, () -> Target.putBreakpoint(x, 30));
        check.due("status", x.byteAt(17), 1);
        check.due("no 15 lies there", Target.word(x, 30), 77);
        check.dueThrows("and none is there", Check.IAE, () -> Target.takeBreakpoint(x, 30));
        for (int address : new int[] {10, 0, 20, 63}) {
            check.due("away from " + address, Target.takeBreakpoint(x, address), 0);
            check.due("room again", Target.putBreakpoint(x, 30), 0);
            check.dueThrows("but for one", Check.IAE, () -> Target.putBreakpoint(x, 31));
            Target.takeBreakpoint(x, 30);
            Target.putBreakpoint(x, address);
        }
        check.due("four", x.count(6), 4);
    }

    private static void refusedWhenThereAlready(Check check) {
        check.sentence("a breakpoint is there already");
        for (int address : new int[] {0, 7, 63}) {
            LineDebugger x = new LineDebugger();
            x.load(address, 4321);
            Target.putBreakpoint(x, address);
            check.dueThrows("twice at " + address, Check.IAE, () -> Target.putBreakpoint(x, address));
            check.due("status", x.byteAt(17), 1);
            check.due("one", x.count(6), 1);
            check.due("the word is kept", Target.word(x, address), 4321);
            x.load(address, 55);
            check.dueThrows("under another word", Check.IAE, () -> Target.putBreakpoint(x, address));
            Target.takeBreakpoint(x, address);
            check.due("the word comes back", Target.word(x, address), 4321);
        }
    }

    private static void refusedWhenNotThere(Check check) {
        check.sentence("or isn't there");
        LineDebugger x = new LineDebugger();
        x.load(9, Target.BREAK);
        check.dueThrows("there are none", Check.IAE, () -> Target.takeBreakpoint(x, 9));
        check.due("status", x.byteAt(17), 1);
        Target.putBreakpoint(x, 10);
        check.dueThrows("one beside it", Check.IAE, () -> Target.takeBreakpoint(x, 11));
        check.dueThrows("the program's own BREAK", Check.IAE, () -> Target.takeBreakpoint(x, 9));
        check.due("the BREAK stays", Target.word(x, 9), Target.BREAK);
        check.due("one", x.count(6), 1);
        Target.takeBreakpoint(x, 10);
        check.dueThrows("taken away already", Check.IAE, () -> Target.takeBreakpoint(x, 10));
        check.due("none", x.count(6), 0);
    }

    private static void the15LiesInTheMemory(Check check) {
        check.sentence("the word that was there, in place of which the word 15 lies in the memory");
        LineDebugger x = new LineDebugger();
        x.load(10, -5);
        Target.putBreakpoint(x, 10);
        check.due("in the memory", Target.inMemory(x, 10), 15);
        check.due("beside it", Target.inMemory(x, 11), 0);
        LineDebugger y = new LineDebugger();
        y.load(10, -1);
        Target.putBreakpoint(y, 10);
        check.due("for another BREAK too", Target.inMemory(y, 10), 15);
        Target.takeBreakpoint(y, 10);
        check.due("which comes back", Target.inMemory(y, 10), -1);
    }

    private static void aLoadSeesThe15(Check check) {
        check.sentence("A LOAD sees the 15");
        LineDebugger x = new LineDebugger();
        x.load(10, 1234);
        Target.putBreakpoint(x, 10);
        Target.loadFrom(x, 0, Target.instruction(7, 4, 0, 0, 10), Target.HALT);
        check.due("a run", Target.run(x, 5), 3);
        check.due("loaded", Target.register(x, 4), 15);
        Target.takeBreakpoint(x, 10);
        Target.setPc(x, 0);
        Target.run(x, 5);
        check.due("loaded without it", Target.register(x, 4), 1234);
    }

    private static void aStoreGoesOverIt(Check check) {
        check.sentence("a STORE goes over it; that is the program's own fault.");
        LineDebugger x = new LineDebugger();
        int store = Target.instruction(8, 1, 0, 0, 3);
        Target.loadFrom(x, 0, store, ADD_ONE, ADD_ONE, 4000, Target.HALT);
        Target.setRegister(x, 1, Target.set(5, 55));
        Target.putBreakpoint(x, 3);
        check.due("it stops no run", Target.run(x, 100), 3);
        check.due("what was stored is done", Target.register(x, 5), 55);
        check.due("it is a breakpoint still", x.count(6), 1);
        check.due("the kept word is as before", Target.word(x, 3), 4000);
        check.dueThrows("it is there already", Check.IAE, () -> Target.putBreakpoint(x, 3));
    }

    private static void readUnderIt(Check check) {
        check.sentence("2 the word at a (under a breakpoint the word that was there)");
        LineDebugger x = withFour();
        for (int address : new int[] {0, 10, 20, 63}) {
            check.due("at " + address, Target.word(x, address), 1000 + address);
        }
        x.load(20, 3);
        check.due("whatever lies there now", Target.word(x, 20), 1020);
        check.due("without one", Target.word(x, 21), 0);
    }

    private static void writtenUnderIt(Check check) {
        check.sentence("3 the word at a becomes v (under a breakpoint that word)");
        LineDebugger x = new LineDebugger();
        Target.putBreakpoint(x, 10);
        check.due("written", Target.setWord(x, 10, 5678), 0);
        check.due("the 15 lies there still", Target.inMemory(x, 10), 15);
        check.due("read", Target.word(x, 10), 5678);
        check.due("one", x.count(6), 1);
        Target.takeBreakpoint(x, 10);
        check.due("it is what comes back", Target.inMemory(x, 10), 5678);
        check.due("written without one", Target.setWord(x, 10, 9), 0);
        check.due("lies there", Target.inMemory(x, 10), 9);
    }

    private static void takenAway(Check check) {
        check.sentence(
                "5 the one at a is taken away (the word that was there comes back, whatever is there now)");
        LineDebugger x = new LineDebugger();
        x.load(10, 4000);
        Target.putBreakpoint(x, 10);
        check.due("the 15 is there", Target.takeBreakpoint(x, 10), 0);
        check.due("the word is back", Target.inMemory(x, 10), 4000);
        Target.putBreakpoint(x, 10);
        x.load(10, 88);
        check.due("a loaded word is there", Target.takeBreakpoint(x, 10), 0);
        check.due("the word is back", Target.inMemory(x, 10), 4000);
        Target.putBreakpoint(x, 10);
        x.load(0, Target.instruction(8, 1, 0, 0, 10));
        Target.setRegister(x, 1, 66);
        Target.step(x);
        check.due("a stored word is there", Target.inMemory(x, 10), 66);
        Target.takeBreakpoint(x, 10);
        check.due("the word is back", Target.inMemory(x, 10), 4000);
        check.due("none", x.count(6), 0);
        Target.putBreakpoint(x, 10);
        Target.setWord(x, 10, 1);
        Target.takeBreakpoint(x, 10);
        Target.putBreakpoint(x, 10);
        check.due("one put again keeps the word of now", Target.word(x, 10), 1);
    }

    private static void aStepFromIt(Check check) {
        check.sentence("In kind 6 and for the first step of kind 7, a breakpoint at PC is not there");
        for (int at : new int[] {0, 30, 63}) {
            LineDebugger x = new LineDebugger();
            x.load(at, ADD_ONE);
            Target.putBreakpoint(x, at);
            Target.setPc(x, at);
            check.due("a step at " + at, Target.step(x), 1);
            check.due("pc", x.count(8), at + 1);
            check.due("it is there again", Target.inMemory(x, at), 15);
        }
        int[][] wordsAndStops = {{Target.HALT, 3}, {Target.NONE, 4}, {-1, 2}, {Target.BREAK, 2}};
        for (int[] each : wordsAndStops) {
            LineDebugger x = new LineDebugger();
            x.load(0, each[0]);
            Target.putBreakpoint(x, 0);
            check.due("the stop of the word under it", Target.step(x), each[1]);
            check.due("by a run", Target.run(x, 9), each[1]);
            check.due("pc", x.count(8), 0);
        }
    }

    private static void aRunFromIt(Check check) {
        check.sentence("for the first step of kind 7");
        LineDebugger x = new LineDebugger();
        Target.loadFrom(x, 0, ADD_ONE, ADD_ONE, Target.HALT);
        Target.putBreakpoint(x, 0);
        check.due("past one", Target.run(x, 50), 3);
        check.due("steps", x.count(5), 2);
        Target.putBreakpoint(x, 1);
        Target.setPc(x, 0);
        check.due("past one to the next", Target.run(x, 50), 2);
        check.due("pc", x.count(8), 1);
        check.due("steps", x.count(5), 3);
        LineDebugger y = new LineDebugger();
        y.load(0, Target.jump(0));
        Target.putBreakpoint(y, 0);
        check.due("back to the same one", Target.run(y, 100), 2);
        check.due("in one step", y.count(5), 1);
        check.due("no step from one", Target.run(y, 0), 5);
    }

    private static void aRunToIt(Check check) {
        check.sentence("until one isn't stop 1, or the instruction at PC then is a BREAK (stop 2)");
        LineDebugger x = new LineDebugger();
        Target.loadFrom(x, 0, ADD_ONE, ADD_ONE, ADD_ONE, ADD_ONE, Target.HALT);
        Target.putBreakpoint(x, 2);
        check.due("up to it", Target.run(x, 100), 2);
        check.due("pc", x.count(8), 2);
        check.due("not done yet", Target.register(x, 0), 2);
        check.due("on from it", Target.run(x, 100), 3);
        check.due("all done", Target.register(x, 0), 4);
        Target.setPc(x, 1);
        check.due("the last step comes to it", Target.run(x, 1), 2);
        Target.setPc(x, 0);
        check.due("one step too few", Target.run(x, 1), 5);
    }

    private static void theWordThatWasThereIsDone(Check check) {
        check.sentence("(the word that was there is done)");
        LineDebugger x = new LineDebugger();
        Target.loadFrom(x, 0, ADD_ONE, Target.HALT);
        Target.putBreakpoint(x, 0);
        x.load(0, Target.NONE);
        check.due("whatever lies there, by a step", Target.step(x), 1);
        Target.setPc(x, 0);
        check.due("whatever lies there, by a run", Target.run(x, 2), 3);
        check.due("register", Target.register(x, 0), 2);
        Target.setWord(x, 0, Target.set(0, 70));
        Target.setPc(x, 0);
        check.due("a word written under it", Target.run(x, 5), 3);
        check.due("register", Target.register(x, 0), 70);
    }

    /** The document leaves open whether the 15 is out of the way here: it is taken to lie there. */
    private static void anInstructionThatReachesItself(Check check) {
        check.sentence("(the word that was there is done)");
        LineDebugger x = new LineDebugger();
        x.load(0, Target.instruction(7, 1, 0, 0, 0));
        Target.putBreakpoint(x, 0);
        check.due("a LOAD of itself", Target.step(x), 1);
        check.due("sees the 15", Target.register(x, 1), 15);
        LineDebugger y = new LineDebugger();
        int store = Target.instruction(8, 1, 0, 0, 0);
        y.load(0, store);
        Target.putBreakpoint(y, 0);
        check.due("a STORE to itself", Target.step(y), 1);
        check.due("goes over it", Target.word(y, 0), store);
        Target.setPc(y, 1);
        y.load(1, Target.jump(0));
        check.due("so that a HALT lies there", Target.run(y, 9), 3);
    }
}
