/** Promise 12. */
public final class EvaluateTest {
    private static final int LOWEST = Integer.MIN_VALUE;

    public static void main(String[] args) {
        Check check = new Check();
        calculations(check);
        stackOperations(check);
        tooFew(check);
        nine(check);
        words(check);
        framesOfTheLatestUnwinding(check);
        givenUp(check);
        whichComesFirst(check);
        check.end();
    }

    private static int[] constant(int v) {
        return new int[] {0, v};
    }

    private static int[] op(int operation) {
        return new int[] {operation};
    }

    private static String worked(int[]... operations) {
        LineDebugger x = new LineDebugger();
        x.unwind();
        Target.giveOperations(x, operations);
        String before = View.of(x);
        String outcome = Check.outcomeOf(() -> x.evaluate(0));
        return View.of(x).equals(before) ? outcome : outcome + ", and the state changed";
    }

    private static void calculate(Check check, int operation, int lower, int upper, int want) {
        check.due(
                "operation " + operation + " of " + lower + ", " + upper,
                worked(constant(lower), constant(upper), op(operation)),
                Integer.toString(want));
    }

    private static void calculations(Check check) {
        check.due("a constant", worked(constant(LOWEST)), Integer.toString(LOWEST));
        calculate(check, 3, 7, 2, 9);
        calculate(check, 3, Integer.MAX_VALUE, 1, LOWEST);
        calculate(check, 4, 7, 2, 5);
        calculate(check, 4, LOWEST, 1, Integer.MAX_VALUE);
        calculate(check, 5, 7, -2, -14);
        calculate(check, 5, 65536, 65537, 65536);
        calculate(check, 6, 7, 2, 3);
        calculate(check, 6, -7, 2, -3);
        calculate(check, 6, 7, -2, -3);
        calculate(check, 6, 0, -2, 0);
        calculate(check, 6, 9, 1, 9);
        calculate(check, 6, LOWEST, -1, LOWEST);
        check.due("a division by 0", worked(constant(5), constant(0), op(6)), Check.ARITHMETIC);
        check.due("0 by 0", worked(constant(0), constant(0), op(6)), Check.ARITHMETIC);
        check.due("two for one", worked(constant(9), constant(5), constant(3), op(4), op(4)), "7");
    }

    private static void stackOperations(Check check) {
        check.due("the top twice", worked(constant(5), op(7), op(5)), "25");
        check.due("places changed", worked(constant(9), constant(4), op(8), op(4)), "-5");
        check.due("places changed, top", worked(constant(9), constant(4), op(8)), "9");
        check.due("the top goes", worked(constant(9), constant(4), op(9)), "9");
        check.due("the one below again", worked(constant(9), constant(4), op(10)), "9");
        check.due("and what is below it stays", worked(constant(9), constant(4), op(10), op(9)), "4");
        check.due("all three", worked(constant(9), constant(4), op(10), op(4), op(4)), "14");
        check.due("the top is the answer", worked(constant(1), constant(2), constant(3)), "3");
    }

    private static void tooFew(Check check) {
        check.due("no operations", worked(), Check.ISE);
        check.due("empty in the end", worked(constant(1), op(9)), Check.ISE);
        check.due("empty in between", worked(constant(1), op(9), constant(2)), "2");
        for (int operation : new int[] {2, 7, 9}) {
            check.due("none for " + operation, worked(op(operation), constant(1)), Check.ISE);
        }
        for (int operation : new int[] {3, 4, 5, 6, 8, 10}) {
            check.due("none for " + operation, worked(op(operation), constant(1)), Check.ISE);
            check.due("one for " + operation, worked(constant(1), op(operation), constant(1)), Check.ISE);
        }
    }

    private static void nine(Check check) {
        int[][] pushes = {{0, 6}, {1, 3}, {7}, {10}};
        for (int[] push : pushes) {
            LineDebugger x = new LineDebugger();
            Target.setRegister(x, 3, 6);
            x.unwind();
            for (int i = 0; i < 7; i++) {
                x.operation(0, 6);
            }
            Target.giveOperations(x, push);
            check.due("eight by " + push[0], x.evaluate(0), 6);
            Target.giveOperations(x, push);
            check.dueThrows("nine by " + push[0], Check.ISE, () -> x.evaluate(0));
            x.operation(9, 0);
            check.dueThrows("nine by " + push[0] + " in between", Check.ISE, () -> x.evaluate(0));
        }
    }

    private static void words(Check check) {
        LineDebugger x = new LineDebugger();
        Target.loadFrom(x, 62, 5, 62);
        x.load(0, 63);
        x.unwind();
        Target.giveOperations(x, constant(0), op(2), op(2), op(2));
        int requests = x.count(0);
        check.due("a word at a word at a word", x.evaluate(0), 5);
        check.due("three were asked for", x.count(0) - requests, 3);
        Target.putBreakpoint(x, 62);
        check.due("under a breakpoint", x.evaluate(0), 5);
        for (int address : new int[] {-1, 64, 256, LOWEST, Integer.MAX_VALUE}) {
            x.drop();
            Target.giveOperations(x, constant(address), op(2), op(9), constant(1));
            int sent = x.count(0);
            check.dueThrows("no address " + address, Check.IAE, () -> x.evaluate(0));
            check.due("not asked for", x.count(0), sent);
        }
        x.drop();
        Target.giveOperations(x, constant(0), op(2), constant(99), op(2));
        int sent = x.count(0);
        check.dueThrows("the second at no address", Check.IAE, () -> x.evaluate(0));
        check.due("the first was asked for", x.count(0) - sent, 1);
    }

    private static void framesOfTheLatestUnwinding(Check check) {
        LineDebugger x = new LineDebugger();
        Target.giveOperations(x, new int[] {1, 6}, constant(1000), op(5), new int[] {1, 2}, op(3));
        check.dueThrows("before an unwinding", Check.IOOBE, () -> x.evaluate(0));
        Target.setRegister(x, 6, 30);
        Target.setRegister(x, 7, 50);
        Target.setRegister(x, 2, 7);
        x.load(31, 8);
        x.rule(0, 9, 4, -1);
        x.save(2, 1);
        check.due("frames", x.unwind(), 2);
        Target.setRegister(x, 2, 999);
        check.due("in frame 0", x.evaluate(0), 30007);
        check.due("in frame 1", x.evaluate(1), 34008);
        String before = View.of(x);
        for (int frame : new int[] {-1, 2, 8, LOWEST, Integer.MAX_VALUE}) {
            check.dueThrows("frame " + frame, Check.IOOBE, () -> x.evaluate(frame));
        }
        check.due("it kept the state", View.of(x), before);
        for (int r = 0; r < 8; r++) {
            x.drop();
            x.operation(1, r);
            check.due("register " + r, x.evaluate(1), x.frame(1, r));
        }
    }

    private static void givenUp(Check check) {
        LineDebugger x = new LineDebugger();
        x.load(4, 44);
        x.unwind();
        Target.giveOperations(x, constant(4), op(2), constant(4), op(2), op(3));
        Target.tellFaults(x, 0, 0, 1, 1, 1, 1);
        int requests = x.count(0);
        check.dueThrows("the second given up", Check.UOE, () -> x.evaluate(0));
        check.due("two were sent", x.count(0) - requests, 2);
        check.due("operations stay", x.count(9), 5);
        check.due("frames stay", x.count(7), 1);
        Target.tellFaults(x, 1, 30, 0, 1);
        check.due("sent again until answered", x.evaluate(0), 88);
    }

    private static void whichComesFirst(Check check) {
        LineDebugger x = new LineDebugger();
        Target.giveOperations(x, op(3));
        check.dueThrows("no frame before too few", Check.IOOBE, () -> x.evaluate(0));
        x.unwind();
        x.drop();
        Target.giveOperations(x, constant(1), constant(0), op(6), op(3));
        check.dueThrows("the division comes first", Check.ARITHMETIC, () -> x.evaluate(0));
        x.drop();
        Target.giveOperations(x, constant(-1), op(2), op(3));
        check.dueThrows("the word comes first", Check.IAE, () -> x.evaluate(0));
        x.drop();
        Target.giveOperations(x, constant(0), op(6), constant(-1), op(2));
        check.dueThrows("too few comes first", Check.ISE, () -> x.evaluate(0));
        x.drop();
        Target.giveOperations(x, constant(0), op(2), op(9), op(9));
        int requests = x.count(0);
        check.dueThrows("too few behind a word", Check.ISE, () -> x.evaluate(0));
        check.due("the word was asked for", x.count(0) - requests, 1);
    }
}
