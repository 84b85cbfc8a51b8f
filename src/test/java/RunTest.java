/** Steps and runs by the stub (Terms: THE STUB, kinds 6 and 7), by promise 4. */
public final class RunTest {
    public static void main(String[] args) {
        Check check = new Check();
        aStep(check);
        untilOneIsntStop1(check);
        untilABreak(check);
        afterVSteps(check);
        noSteps(check);
        notMoreThan200(check);
        check.end();
    }

    /** Goes round for ever, and counts in register 0: two steps a round. */
    private static LineDebugger loop() {
        LineDebugger x = new LineDebugger();
        Target.loadFrom(x, 0, Target.ADD_ONE, Target.jump(0));
        return x;
    }

    /** Adds one, three times, and comes to the last word. */
    private static LineDebugger threeAnd(int last) {
        LineDebugger x = new LineDebugger();
        Target.loadFrom(x, 0, Target.ADD_ONE, Target.ADD_ONE, Target.ADD_ONE, last);
        return x;
    }

    private static void ran(Check check, String what, LineDebugger x, int steps, int pc) {
        check.due(what + ": steps", x.count(5), steps);
        check.due(what + ": pc", x.count(8), pc);
    }

    private static void aStep(Check check) {
        check.sentence("6 a step, 7 up to v steps");
        LineDebugger x = threeAnd(Target.HALT);
        check.due("one", x.request(6, 9, 200), 1);
        ran(check, "one, whatever v is", x, 1, 1);
        check.due("a run of one", x.request(7, 9, 1), 5);
        ran(check, "a run of one", x, 2, 2);
    }

    private static void untilOneIsntStop1(Check check) {
        check.sentence("until one isn't stop 1");
        int[][] lastAndStop = {
            {Target.HALT, 3}, {Target.NONE, 4}, {Target.instruction(6, 0, 0, 1, 0), 4},
            {Target.instruction(7, 0, 1, 0, -1), 4}, {Target.instruction(8, 0, 1, 0, 64), 4},
        };
        for (int[] each : lastAndStop) {
            LineDebugger x = threeAnd(each[0]);
            check.due("the fourth step of four", Target.run(x, 4), each[1]);
            ran(check, "the fourth step of four", x, 3, 3);
            check.due("the first of 200", Target.run(x, 200), each[1]);
            ran(check, "the first of 200", x, 3, 3);
            LineDebugger y = threeAnd(each[0]);
            check.due("not come to in three", Target.run(y, 3), 5);
            ran(check, "not come to in three", y, 3, 3);
        }
        LineDebugger z = new LineDebugger();
        z.load(63, Target.ADD_ONE);
        Target.setPc(z, 63);
        check.due("off the end, with one to go", Target.run(z, 2), 4);
        ran(check, "off the end, with one to go", z, 1, 64);
        Target.setPc(z, 63);
        check.due("off the end in the last step", Target.run(z, 1), 5);
        ran(check, "off the end in the last step", z, 2, 64);
    }

    private static void untilABreak(Check check) {
        check.sentence("or the instruction at PC then is a BREAK (stop 2)");
        for (int word : new int[] {Target.BREAK, -1, Target.instruction(15, 1, 2, 3, 4)}) {
            for (int most : new int[] {3, 4, 200}) {
                LineDebugger x = threeAnd(word);
                check.due("with up to " + most, Target.run(x, most), 2);
                ran(check, "with up to " + most, x, 3, 3);
                check.due("and from it", Target.run(x, most), 2);
                ran(check, "and from it", x, 3, 3);
            }
            LineDebugger y = threeAnd(word);
            check.due("not come to in two", Target.run(y, 2), 5);
            check.due("a step comes to it", Target.step(y), 1);
        }
    }

    private static void afterVSteps(Check check) {
        check.sentence("after v steps it is stop 5");
        for (int most : new int[] {1, 2, 199, 200}) {
            LineDebugger x = loop();
            check.due("after " + most, Target.run(x, most), 5);
            ran(check, "after " + most, x, most, most % 2);
            check.due("counted", Target.register(x, 0), (most + 1) / 2);
        }
    }

    private static void noSteps(Check check) {
        check.sentence("after v steps it is stop 5");
        for (int word : new int[] {Target.ADD_ONE, Target.HALT, Target.BREAK, Target.NONE}) {
            LineDebugger x = new LineDebugger();
            x.load(0, word);
            check.due("no step at " + word, Target.run(x, 0), 5);
            ran(check, "no step at " + word, x, 0, 0);
        }
        LineDebugger y = new LineDebugger();
        Target.setPc(y, -1);
        check.due("no step at no address", Target.run(y, 0), 5);
    }

    private static void notMoreThan200(Check check) {
        check.sentence("or v is not 0 .. 200 in kind 7");
        LineDebugger x = loop();
        for (int v : new int[] {-1, 201, 256, 65536, Target.LOWEST, Target.HIGHEST}) {
            check.dueThrows("v " + v, Check.IAE, () -> Target.run(x, v));
            check.due("status for " + v, x.byteAt(17), 1);
            check.due("value for " + v, x.byteAt(18), 0);
            ran(check, "v " + v, x, 0, 0);
        }
        check.due("v 0", Target.run(x, 0), 5);
        check.due("v 200", Target.run(x, 200), 5);
        ran(check, "v 200", x, 200, 0);
    }
}
