import java.util.function.ToIntFunction;

/** "What throws changes nothing, but for what went over the line", for every call that throws. */
public final class ThrowTest {
    private static final String SENTENCE =
            "What throws changes nothing, but for what went over the line.";

    public static void main(String[] args) {
        Check check = new Check();
        check.sentence(SENTENCE);
        faults(check);
        kinds(check);
        rules(check);
        saves(check);
        frames(check);
        operations(check);
        expressions(check);
        refusedRequests(check);
        givenUpRequests(check);
        givenUpUnwindings(check);
        givenUpExpressions(check);
        check.end();
    }

    /** An object with something of everything in it, and room for more. */
    private static LineDebugger used() {
        LineDebugger x = new LineDebugger();
        Target.loadFrom(x, 0, Target.ADD_ONE, Target.ADD_ONE, Target.jump(0));
        Target.loadFrom(x, 40, 2, 77, 9);
        Target.putBreakpoint(x, 1);
        Target.setRegister(x, 6, 40);
        Target.setRegister(x, 7, 1);
        Target.run(x, 50);
        x.rule(0, 1, 1, 0);
        x.save(3, 1);
        x.rule(2, 2, 2, -1);
        x.save(4, 1);
        Target.giveOperations(x, new int[] {0, 41}, new int[] {2}, new int[] {1, 4}, new int[] {3});
        x.unwind();
        Target.tellFaults(x, 0, 0, 1);
        return x;
    }

    /** One in which no fault, rule or operation more has room. */
    private static LineDebugger full() {
        LineDebugger x = used();
        for (int i = 3; i <= 8; i++) {
            x.rule(3, 3, i, -1);
        }
        for (int i = 5; i <= 20; i++) {
            x.operation(i % 2 == 0 ? 9 : 0, i);
        }
        for (int i = 4; i <= 40; i++) {
            x.fault(0);
        }
        return x;
    }

    /** All that there is to see of an object, over the line too. */
    private static String everything(LineDebugger x) {
        StringBuilder text = new StringBuilder(View.of(x));
        text.append("\nevaluate ").append(Check.outcomeOf(() -> x.evaluate(1)));
        text.append("\nfault ").append(Check.outcomeOf(() -> x.fault(0)));
        text.append("\nrule ").append(Check.outcomeOf(() -> x.rule(9, 9, 0, 0)));
        for (int pc = 0; pc <= 3; pc += 3) {
            Target.setPc(x, pc);
            text.append("\nunwind ").append(x.unwind()).append(View.ofFrames(x));
        }
        text.append("\ndrop ").append(x.drop());
        return text.append("\n").append(View.ofMachine(x)).append(View.of(x)).toString();
    }

    private static void changesNothing(
            Check check, String what, String thrown, ToIntFunction<LineDebugger> call) {
        LineDebugger x = used();
        check.dueThrows(what, thrown, () -> call.applyAsInt(x));
        check.due(what + " changed nothing", everything(x), everything(used()));
        LineDebugger y = full();
        String outcome = Check.outcomeOf(() -> call.applyAsInt(y));
        check.due(what + " throws when all is full", outcome, thrown);
        check.due(what + " changed nothing in what is full", everything(y), everything(full()));
    }

    private static void changesNothingInFull(
            Check check, String what, ToIntFunction<LineDebugger> call) {
        LineDebugger x = full();
        check.dueThrows(what, Check.ISE, () -> call.applyAsInt(x));
        check.due(what + " changed nothing", everything(x), everything(full()));
    }

    private static void faults(Check check) {
        changesNothing(check, "a fault below 0", Check.IAE, x -> x.fault(-1));
        changesNothingInFull(check, "a 41st fault", x -> x.fault(1));
    }

    private static void kinds(Check check) {
        changesNothing(check, "kind -1", Check.IAE, x -> x.request(-1, 0, 0));
        changesNothing(check, "kind 10", Check.IAE, x -> x.request(10, 0, 0));
    }

    private static void rules(Check check) {
        changesNothing(check, "from above to", Check.IAE, x -> x.rule(1, 0, 0, 0));
        changesNothing(check, "a size below 0", Check.IAE, x -> x.rule(0, 3, -1, 0));
        changesNothing(check, "a size above 15", Check.IAE, x -> x.rule(0, 3, 16, 0));
        changesNothing(check, "a slot below -1", Check.IAE, x -> x.rule(0, 3, 0, -2));
        changesNothing(check, "a slot above 15", Check.IAE, x -> x.rule(0, 3, 0, 16));
        changesNothingInFull(check, "a ninth rule", x -> x.rule(0, 3, 0, -1));
    }

    private static int save(LineDebugger x, int register, int slot) {
        x.save(register, slot);
        return 0;
    }

    private static void saves(Check check) {
        changesNothing(check, "a save of the stack", Check.IAE, x -> save(x, 6, 0));
        changesNothing(check, "a save of register 8", Check.IAE, x -> save(x, 8, 0));
        changesNothing(check, "a save of register -1", Check.IAE, x -> save(x, -1, 0));
        changesNothing(check, "a save at slot -1", Check.IAE, x -> save(x, 4, -1));
        changesNothing(check, "a save at slot 16", Check.IAE, x -> save(x, 4, 16));
        LineDebugger x = new LineDebugger();
        check.dueThrows("a save without a rule", Check.ISE, () -> save(x, 0, 0));
        check.due("it changed nothing", everything(x), everything(new LineDebugger()));
    }

    private static void frames(Check check) {
        changesNothing(check, "frame -1", Check.IOOBE, x -> x.frame(-1, 0));
        changesNothing(check, "frame 8", Check.IOOBE, x -> x.frame(8, 0));
        changesNothing(check, "register -1", Check.IOOBE, x -> x.frame(0, -1));
        changesNothing(check, "register 9", Check.IOOBE, x -> x.frame(0, 9));
    }

    private static void operations(Check check) {
        changesNothing(check, "operation -1", Check.IAE, x -> x.operation(-1, 0));
        changesNothing(check, "operation 11", Check.IAE, x -> x.operation(11, 0));
        changesNothing(check, "operation REGISTER -1", Check.IAE, x -> x.operation(1, -1));
        changesNothing(check, "operation REGISTER 8", Check.IAE, x -> x.operation(1, 8));
        changesNothingInFull(check, "a 21st operation", x -> x.operation(0, 5));
    }

    /** The expression is other than that of used(), so it is dropped before all is compared. */
    private static void expression(Check check, String what, String thrown, int[]... operations) {
        LineDebugger x = used();
        LineDebugger twin = used();
        x.drop();
        twin.drop();
        Target.giveOperations(x, operations);
        Target.giveOperations(twin, operations);
        check.dueThrows(what, thrown, () -> x.evaluate(0));
        check.due(what + " changed nothing", everything(x), everything(twin));
    }

    private static void expressions(Check check) {
        changesNothing(check, "evaluate in frame -1", Check.IOOBE, x -> x.evaluate(-1));
        changesNothing(check, "evaluate in frame 8", Check.IOOBE, x -> x.evaluate(8));
        expression(check, "too few", Check.ISE, new int[] {0, 1}, new int[] {3});
        expression(check, "none in the end", Check.ISE, new int[] {0, 1}, new int[] {9});
        expression(check, "nine", Check.ISE, new int[] {0, 1}, new int[] {7}, new int[] {7},
                new int[] {7}, new int[] {7}, new int[] {7}, new int[] {7}, new int[] {7}, new int[] {7});
        expression(check, "by 0", Check.ARITHMETIC, new int[] {0, 1}, new int[] {0, 0}, new int[] {6});
        expression(check, "no address", Check.IAE, new int[] {0, 64}, new int[] {2});
    }

    /** What does not go over the line by itself: the machine's part and the debugger's tables. */
    private static String apartFromTheLine(LineDebugger x) {
        String text = View.ofMachine(x) + View.ofFrames(x);
        for (int what = 5; what <= 9; what++) {
            text += " " + x.count(what);
        }
        return text;
    }

    private static void refusedRequests(Check check) {
        int[][] refused = {
            {0, 8, 5}, {1, 8, 5}, {2, 64, 5}, {3, 64, 5}, {4, 64, 5}, {4, 1, 5}, {5, 64, 5},
            {5, 2, 5}, {7, 0, -1}, {7, 0, 201},
        };
        for (int[] each : refused) {
            LineDebugger x = used();
            String before = apartFromTheLine(x);
            int requests = x.count(0);
            String what = "kind " + each[0] + " of " + each[1] + ", " + each[2];
            check.dueThrows(what, Check.IAE, () -> x.request(each[0], each[1], each[2]));
            check.due(what + " was sent", x.count(0) - requests, 1);
            check.due(what + " changed nothing", apartFromTheLine(x), before);
        }
    }

    private static void givenUpRequests(Check check) {
        int[][] changing = {{1, 0, 5}, {3, 5, 5}, {4, 9, 0}, {5, 1, 0}, {6, 0, 0}, {7, 0, 9}, {9, 0, 7}};
        for (int[] each : changing) {
            LineDebugger x = used();
            Target.pc(x);
            String before = apartFromTheLine(x);
            Target.tellFaults(x, 1, 9, 1, 9);
            check.dueThrows("kind " + each[0], Check.UOE, () -> x.request(each[0], each[1], each[2]));
            check.due("not received, not done", apartFromTheLine(x), before);

            LineDebugger done = used();
            LineDebugger twin = used();
            Target.pc(done);
            Target.pc(twin);
            Target.tellFaults(done, 0, 1, 0, 9, 0, 1, 0, 9);
            check.dueThrows("kind " + each[0], Check.UOE, () -> done.request(each[0], each[1], each[2]));
            twin.request(each[0], each[1], each[2]);
            check.due("received, done once", apartFromTheLine(done), apartFromTheLine(twin));
            check.due("and something changed", apartFromTheLine(done).equals(before), false);
        }
    }

    private static void givenUpUnwindings(Check check) {
        LineDebugger x = used();
        Target.setPc(x, 0);
        Target.pc(x);
        String before = apartFromTheLine(x);
        String worked = Check.outcomeOf(() -> x.evaluate(1));
        for (int answered = 0; answered < 11; answered++) {
            for (int i = 0; i < answered; i++) {
                Target.tellFaults(x, 0, 0);
            }
            Target.tellFaults(x, 1, 1, 1, 1);
            check.dueThrows("given up after " + answered, Check.UOE, x::unwind);
            check.due("the expression sees the frames from before",
                    Check.outcomeOf(() -> x.evaluate(1)), worked);
        }
        check.due("an unwinding given up changed nothing", apartFromTheLine(x), before);
    }

    private static void givenUpExpressions(Check check) {
        LineDebugger x = used();
        Target.pc(x);
        String before = apartFromTheLine(x);
        Target.tellFaults(x, 1, 1, 1, 1);
        check.dueThrows("given up", Check.UOE, () -> x.evaluate(0));
        check.due("an expression given up changed nothing", apartFromTheLine(x), before);
        check.due("and can be worked out again", x.evaluate(0), 77);
    }
}
