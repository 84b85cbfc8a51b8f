/** Promise 12, and what the operations do (Terms: EXPRESSIONS). */
public final class EvaluateTest {
    private static final int LOWEST = Target.LOWEST;
    private static final int HIGHEST = Target.HIGHEST;

    public static void main(String[] args) {
        Check check = new Check();
        constants(check);
        registersOfAFrame(check);
        wordsInPlaceOfTheTop(check);
        sums(check);
        differences(check);
        products(check);
        quotients(check);
        stackOperations(check);
        whatIsOnTopInTheEnd(check);
        noSuchFrame(check);
        tooFew(check);
        emptyInTheEnd(check);
        wouldHaveNine(check);
        twentyOperations(check);
        divisionsByZero(check);
        wordsAtNoAddress(check);
        wordsOverTheLine(check);
        givenUp(check);
        whichComesFirst(check);
        check.end();
    }

    private static int[] constant(int v) {
        return new int[] {0, v};
    }

    private static int[] register(int v) {
        return new int[] {1, v};
    }

    private static int[] op(int operation) {
        return new int[] {operation};
    }

    private static String worked(int[]... operations) {
        LineDebugger x = new LineDebugger();
        x.unwind();
        Target.giveOperations(x, operations);
        String before = View.of(x);
        String outcome = Check.outcomeOf(() -> x.evaluate(0));
        return View.of(x).equals(before) ? outcome : outcome + ", and the state changed";
    }

    private static void calculate(Check check, int operation, int lower, int upper, int want) {
        String what = "operation " + operation + " of " + lower + ", " + upper;
        int[][] operations = {constant(lower), constant(upper), op(operation)};
        check.due(what, worked(operations), Integer.toString(want));
        // In their place: what lies below the two is below what came of them.
        int[] below = constant(1000);
        check.due(what + ", and what is below", worked(below, operations[0], operations[1],
                operations[2], op(8)), "1000");
        check.due(what + " leaves one of two", worked(operations[0], operations[1], operations[2],
                op(9)), Check.ISE);
    }

    private static void constants(Check check) {
        check.sentence("0 CONSTANT v");
        for (int v : new int[] {LOWEST, -1, 0, 1, HIGHEST}) {
            check.due("constant " + v, worked(constant(v)), Integer.toString(v));
        }
    }

    private static LineDebugger withTwoFrames() {
        LineDebugger x = new LineDebugger();
        for (int r = 0; r < 8; r++) {
            Target.setRegister(x, r, 30 + r);
        }
        x.load(37, 8);
        x.rule(0, 9, 4, -1);
        x.save(2, 1);
        x.unwind();
        return x;
    }

    private static void registersOfAFrame(Check check) {
        check.sentence("1 REGISTER v of a frame (0 .. 7)");
        LineDebugger x = withTwoFrames();
        Target.setRegister(x, 2, 999);
        int requests = x.count(0);
        for (int r = 0; r < 8; r++) {
            x.drop();
            x.operation(1, r);
            check.due("register " + r + " of frame 0", x.evaluate(0), 30 + r);
            int want = r == 2 ? 8 : r == 6 ? 40 : 30 + r;
            check.due("register " + r + " of frame 1", x.evaluate(1), want);
        }
        check.due("not asked for", x.count(0), requests);
    }

    private static void wordsInPlaceOfTheTop(Check check) {
        check.sentence("2 the WORD at what is on top (in its place)");
        LineDebugger x = new LineDebugger();
        x.load(0, 63);
        x.load(63, 5);
        x.unwind();
        Target.giveOperations(x, constant(7), constant(0), op(2), op(4));
        check.due("what is below stays below", x.evaluate(0), 7 - 63);
        x.drop();
        Target.giveOperations(x, constant(0), op(2), op(2));
        check.due("a word at a word", x.evaluate(0), 5);
        x.drop();
        Target.giveOperations(x, constant(63), op(2), op(9));
        check.dueThrows("one in the place of one", Check.ISE, () -> x.evaluate(0));
    }

    private static void sums(Check check) {
        check.sentence("3 SUM");
        calculate(check, 3, 7, 2, 9);
        calculate(check, 3, HIGHEST, 1, LOWEST);
        calculate(check, 3, LOWEST, LOWEST, 0);
    }

    private static void differences(Check check) {
        check.sentence("4 DIFFERENCE (the upper one taken from the lower)");
        calculate(check, 4, 7, 2, 5);
        calculate(check, 4, 2, 7, -5);
        calculate(check, 4, LOWEST, 1, HIGHEST);
        calculate(check, 4, 0, LOWEST, LOWEST);
    }

    private static void products(Check check) {
        check.sentence("5 PRODUCT");
        calculate(check, 5, 7, -2, -14);
        calculate(check, 5, 65536, 65537, 65536);
        calculate(check, 5, HIGHEST, HIGHEST, 1);
    }

    private static void quotients(Check check) {
        check.sentence("6 QUOTIENT (as the machine's) of the two on top, in their place");
        calculate(check, 6, 7, 2, 3);
        calculate(check, 6, -7, 2, -3);
        calculate(check, 6, 7, -2, -3);
        calculate(check, 6, 0, -2, 0);
        calculate(check, 6, 2, 7, 0);
        calculate(check, 6, LOWEST, -1, LOWEST);
    }

    private static void stackOperations(Check check) {
        check.sentence("7 the top twice; 8 the two on top change places; 9 the top goes; "
                + "10 the one below the top once more.");
        check.due("the top twice", worked(constant(5), op(7), op(5)), "25");
        check.due("and no more", worked(constant(5), op(7), op(9), op(9)), Check.ISE);
        check.due("places changed", worked(constant(9), constant(4), op(8), op(4)), "-5");
        check.due("places changed, top", worked(constant(9), constant(4), op(8)), "9");
        check.due("the third stays", worked(constant(1), constant(9), constant(4), op(8), op(9), op(9)), "1");
        check.due("the top goes", worked(constant(9), constant(4), op(9)), "9");
        check.due("the one below again", worked(constant(9), constant(4), op(10)), "9");
        check.due("above the two", worked(constant(9), constant(4), op(10), op(4), op(4)), "14");
    }

    private static void whatIsOnTopInTheEnd(Check check) {
        check.sentence("what is on top in the end");
        check.due("of three", worked(constant(1), constant(2), constant(3)), "3");
        check.due("of one", worked(constant(1)), "1");
        LineDebugger x = withTwoFrames();
        Target.giveOperations(x, constant(6), constant(7), op(5));
        check.due("once", x.evaluate(0), 42);
        check.due("and once more", x.evaluate(1), 42);
        check.due("operations stay", x.count(9), 3);
    }

    private static void noSuchFrame(Check check) {
        check.sentence("Throws IndexOutOfBoundsException when there is no such frame");
        LineDebugger fresh = new LineDebugger();
        fresh.operation(0, 1);
        check.dueThrows("before an unwinding", Check.IOOBE, () -> fresh.evaluate(0));
        LineDebugger x = withTwoFrames();
        Target.giveOperations(x, constant(0), op(2));
        String before = View.of(x);
        for (int frame : new int[] {-1, 2, 7, 8, 256, LOWEST, HIGHEST}) {
            check.dueThrows("frame " + frame, Check.IOOBE, () -> x.evaluate(frame));
        }
        check.due("it kept the state", View.of(x), before);
        LineDebugger y = new LineDebugger();
        y.rule(0, 0, 0, -1);
        y.unwind();
        y.operation(0, 5);
        check.due("the last of eight", y.evaluate(7), 5);
        check.dueThrows("a ninth", Check.IOOBE, () -> y.evaluate(8));
    }

    private static void tooFew(Check check) {
        check.sentence("IllegalStateException when the stack has too few for an operation");
        for (int operation : new int[] {2, 7, 9}) {
            check.due("none for " + operation, worked(op(operation), constant(1)), Check.ISE);
        }
        for (int operation : new int[] {3, 4, 5, 6, 8, 10}) {
            check.due("none for " + operation, worked(op(operation), constant(1)), Check.ISE);
            check.due("one for " + operation, worked(constant(1), op(operation), constant(1)), Check.ISE);
        }
        LineDebugger x = new LineDebugger();
        x.unwind();
        Target.giveOperations(x, constant(1), constant(2));
        x.evaluate(0);
        x.drop();
        x.operation(3, 0);
        check.dueThrows("what an earlier one left is gone", Check.ISE, () -> x.evaluate(0));
    }

    private static void emptyInTheEnd(Check check) {
        check.sentence("(or is empty in the end)");
        check.due("no operations", worked(), Check.ISE);
        check.due("one came and went", worked(constant(1), op(9)), Check.ISE);
        check.due("two came and went", worked(constant(1), op(7), op(9), op(9)), Check.ISE);
        check.due("empty in between", worked(constant(1), op(9), constant(2)), "2");
    }

    private static void wouldHaveNine(Check check) {
        check.sentence("or would have nine");
        int[][] pushes = {constant(6), register(3), op(7), op(10)};
        for (int[] push : pushes) {
            LineDebugger x = new LineDebugger();
            Target.setRegister(x, 3, 6);
            x.unwind();
            for (int i = 0; i < 7; i++) {
                x.operation(0, 6);
            }
            Target.giveOperations(x, push);
            check.due("eight by " + push[0], x.evaluate(0), 6);
            Target.giveOperations(x, push);
            check.dueThrows("nine by " + push[0], Check.ISE, () -> x.evaluate(0));
            x.operation(9, 0);
            check.dueThrows("nine by " + push[0] + " in between", Check.ISE, () -> x.evaluate(0));
        }
    }

    private static void twentyOperations(Check check) {
        check.sentence("EXPRESSIONS are at most 20 OPERATIONS for a stack of at most eight ints");
        LineDebugger x = new LineDebugger();
        x.unwind();
        for (int i = 1; i <= 8; i++) {
            x.operation(0, i);
        }
        for (int i = 1; i <= 7; i++) {
            x.operation(3, 0);
        }
        Target.giveOperations(x, op(7), op(5), op(7), op(4), constant(77));
        check.due("twenty", x.count(9), 20);
        check.due("all are worked out", x.evaluate(0), 77);
        check.dueThrows("a 21st", Check.ISE, () -> x.operation(3, 0));
        x.drop();
        for (int i = 1; i <= 8; i++) {
            x.operation(0, i);
        }
        for (int i = 1; i <= 7; i++) {
            x.operation(3, 0);
        }
        check.due("the sum of eight", x.evaluate(0), 36);
    }

    private static void divisionsByZero(Check check) {
        check.sentence("ArithmeticException for a division by 0");
        for (int lower : new int[] {5, 0, -1, LOWEST}) {
            check.due(lower + " by 0", worked(constant(lower), constant(0), op(6)), Check.ARITHMETIC);
        }
        check.due("though it would go", worked(constant(5), constant(0), op(6), op(9), constant(1)),
                Check.ARITHMETIC);
        check.due("0 by 5", worked(constant(0), constant(5), op(6)), "0");
    }

    private static void wordsAtNoAddress(Check check) {
        check.sentence("IllegalArgumentException for a word at no address (not asked for then)");
        for (int address : new int[] {-1, 64, 65, 256, 319, LOWEST, HIGHEST}) {
            check.due("word " + address, worked(constant(address), op(2)), Check.IAE);
        }
        LineDebugger x = new LineDebugger();
        x.load(63, -9);
        x.load(0, -8);
        x.unwind();
        Target.giveOperations(x, constant(63), op(2));
        check.due("word 63", x.evaluate(0), -9);
        x.drop();
        Target.giveOperations(x, constant(0), op(2));
        check.due("word 0", x.evaluate(0), -8);
        x.operation(2, 0);
        int sent = x.count(0);
        check.dueThrows("a second at no address", Check.IAE, () -> x.evaluate(0));
        check.due("the first was asked for", x.count(0) - sent, 1);
    }

    private static void wordsOverTheLine(Check check) {
        check.sentence("(words are asked for over the line)");
        LineDebugger x = new LineDebugger();
        x.load(20, 5);
        x.unwind();
        Target.giveOperations(x, constant(20), op(2), constant(20), op(2), op(5));
        int requests = x.count(0);
        check.due("twice", x.evaluate(0), 25);
        check.due("asked for twice", x.count(0) - requests, 2);
        check.due("by kind 2", x.byteAt(1), 2);
        check.due("at 20", x.byteAt(2), 20);
        Target.putBreakpoint(x, 20);
        check.due("under a breakpoint", x.evaluate(0), 25);
        Target.setWord(x, 20, 6);
        check.due("as it is now", x.evaluate(0), 36);
    }

    private static void givenUp(Check check) {
        check.sentence("UnsupportedOperationException when a request is given up");
        LineDebugger x = new LineDebugger();
        x.load(4, 44);
        x.unwind();
        Target.giveOperations(x, constant(4), op(2), constant(4), op(2), op(3));
        String frames = View.ofFrames(x);
        Target.tellFaults(x, 1, 1, 1, 1);
        check.dueThrows("the first given up", Check.UOE, () -> x.evaluate(0));
        Target.tellFaults(x, 0, 0, 0, 1, 0, 9, 1, 9);
        int requests = x.count(0);
        check.dueThrows("the second given up", Check.UOE, () -> x.evaluate(0));
        check.due("two were sent", x.count(0) - requests, 2);
        check.due("operations stay", x.count(9), 5);
        check.due("frames stay", View.ofFrames(x), frames);
        Target.tellFaults(x, 1, 30, 0, 1);
        check.due("sent again until answered", x.evaluate(0), 88);
    }

    /** The document tells no order: the frame comes first, then operation by operation. */
    private static void whichComesFirst(Check check) {
        check.sentence("Works the expression out in a frame of the latest unwinding");
        LineDebugger x = new LineDebugger();
        x.operation(3, 0);
        check.dueThrows("no frame before too few", Check.IOOBE, () -> x.evaluate(0));
        check.due("the division comes first",
                worked(constant(1), constant(0), op(6), op(3)), Check.ARITHMETIC);
        check.due("the word comes first", worked(constant(-1), op(2), op(3)), Check.IAE);
        check.due("too few comes first", worked(constant(0), op(6), constant(-1), op(2)), Check.ISE);
        LineDebugger y = new LineDebugger();
        y.unwind();
        Target.giveOperations(y, constant(0), op(2), op(9), op(9));
        int requests = y.count(0);
        check.dueThrows("too few behind a word", Check.ISE, () -> y.evaluate(0));
        check.due("the word was asked for", y.count(0) - requests, 1);
    }
}
