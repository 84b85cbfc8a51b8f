/** Promise 4, and what the stub answers (Terms: THE STUB). */
public final class RequestTest {
    private static final int LOWEST = Target.LOWEST;
    private static final int HIGHEST = Target.HIGHEST;

    public static void main(String[] args) {
        Check check = new Check();
        itsValue(check);
        registers(check);
        words(check);
        pcTakesAnyNumber(check);
        zeroOrWhatWasAskedForOrTheStop(check);
        noSuchRegister(check);
        noSuchWord(check);
        onlyTheLowBitsOfAGo(check);
        kindsNotZeroToNine(check);
        statusOne(check);
        givenUp(check);
        check.end();
    }

    private static void itsValue(Check check) {
        check.sentence("Sends a request; its value.");
        LineDebugger x = new LineDebugger();
        check.due("value", x.request(1, 2, 99), 0);
        check.due("one was sent", x.count(0), 1);
        check.due("value", x.request(0, 2, 0), 99);
        check.due("two were sent", x.count(0), 2);
    }

    private static void registers(Check check) {
        check.sentence("0 register a, 1 register a becomes v");
        LineDebugger x = new LineDebugger();
        int[] values = {1, -1, LOWEST, HIGHEST, 0x12345678, 255, 256, -256};
        for (int r = 0; r < 8; r++) {
            check.due("write " + r, x.request(1, r, values[r]), 0);
        }
        for (int r = 0; r < 8; r++) {
            check.due("read " + r, x.request(0, r, 99), values[r]);
        }
    }

    private static void words(Check check) {
        check.sentence("2 the word at a");
        LineDebugger x = new LineDebugger();
        for (int address = 0; address < 64; address++) {
            check.due("write " + address, x.request(3, address, 0x7fedcba9 * address - 7), 0);
        }
        for (int address = 0; address < 64; address++) {
            check.due("read " + address, x.request(2, address, 5), 0x7fedcba9 * address - 7);
        }
    }

    private static void pcTakesAnyNumber(Check check) {
        check.sentence("8 PC, 9 PC becomes v.");
        LineDebugger x = new LineDebugger();
        for (int pc : new int[] {0, 63, 64, -1, HIGHEST, LOWEST}) {
            check.due("set " + pc, x.request(9, 77, pc), 0);
            check.due("get " + pc, x.request(8, 99, 5), pc);
            check.due("count " + pc, x.count(8), pc);
        }
    }

    private static void answered(Check check, LineDebugger x, int status, int value) {
        check.due("status", x.byteAt(17), status);
        for (int i = 0; i < 4; i++) {
            check.due("value's byte " + i, x.byteAt(18 + i), value >> (8 * i) & 255);
        }
    }

    private static void zeroOrWhatWasAskedForOrTheStop(Check check) {
        check.sentence("Each answers a STATUS and a VALUE: 0 and what was asked for, or the stop, or 0");
        LineDebugger x = new LineDebugger();
        Target.loadFrom(x, 0, Target.ADD_ONE, Target.jump(0));
        int[][] kindsAndValues = {
            {1, 2, -9, 0}, {0, 2, 7, -9}, {3, 63, -8, 0}, {2, 63, 7, -8}, {4, 63, 7, 0},
            {5, 63, 7, 0}, {9, 7, 1, 0}, {8, 7, 7, 1}, {6, 7, 7, 1}, {7, 7, 7, 5},
        };
        for (int[] each : kindsAndValues) {
            check.due("kind " + each[0], x.request(each[0], each[1], each[2]), each[3]);
            answered(check, x, 0, each[3]);
        }
    }

    private static void refused(Check check, LineDebugger x, int kind, int a, int v) {
        check.dueThrows("kind " + kind + " of " + a, Check.IAE, () -> x.request(kind, a, v));
        answered(check, x, 1, 0);
    }

    private static void noSuchRegister(Check check) {
        check.sentence("status 1 (and 0) when there is no such register or word");
        LineDebugger x = new LineDebugger();
        Target.setRegister(x, 7, -1);
        Target.setRegister(x, 0, -1);
        String before = View.ofMachine(x);
        for (int a : new int[] {8, 9, 63, 64, 128, 255, -1, 256 + 8}) {
            refused(check, x, 0, a, 0);
            refused(check, x, 1, a, 5);
        }
        check.due("nothing changed", View.ofMachine(x), before);
    }

    private static void noSuchWord(Check check) {
        check.sentence("status 1 (and 0) when there is no such register or word");
        LineDebugger x = new LineDebugger();
        x.load(0, -1);
        x.load(63, -1);
        String before = View.ofMachine(x);
        for (int a : new int[] {64, 65, 128, 255, -1, 256 + 64}) {
            for (int kind = 2; kind <= 5; kind++) {
                refused(check, x, kind, a, 5);
            }
        }
        check.due("nothing changed", View.ofMachine(x), before);
        check.due("no breakpoints", x.count(6), 0);
    }

    private static void onlyTheLowBitsOfAGo(Check check) {
        check.sentence("a (low eight bits)");
        LineDebugger x = new LineDebugger();
        x.request(1, 3, 33);
        for (int a : new int[] {3 + 256, 3 - 256, 3 + 65536, 3 + LOWEST}) {
            check.due("register " + a, x.request(0, a, 0), 33);
            check.due("sent as", x.byteAt(2), 3);
        }
        x.request(3, 256 + 63, 44);
        check.due("word 63", x.request(2, 63, 0), 44);
        check.due("a breakpoint at 512", x.request(4, 512, 0), 0);
        check.due("is one at 0", x.request(5, 0, 0), 0);
    }

    private static void kindsNotZeroToNine(Check check) {
        check.sentence("Throws IllegalArgumentException when kind is not 0 .. 9");
        LineDebugger x = new LineDebugger();
        x.request(1, 2, 3);
        Target.tellFaults(x, 1);
        String before = View.of(x);
        for (int kind : new int[] {-1, 10, 11, 255, 256, 265, LOWEST, HIGHEST}) {
            check.dueThrows("kind " + kind, Check.IAE, () -> x.request(kind, 2, 0));
        }
        check.due("nothing was sent", View.of(x), before);
    }

    private static void statusOne(Check check) {
        check.sentence("or when the status is 1");
        LineDebugger x = new LineDebugger();
        refused(check, x, 0, 8, 0);
        check.due("it went over the line", x.count(0), 1);
        check.due("and was answered", x.count(2), 1);
        Target.tellFaults(x, 1, 0, 1, 9);
        refused(check, x, 5, 3, 0);
        check.due("sent until it was answered", x.count(1), 5);
        check.due("answered twice", x.count(2), 3);
        check.due("the next one is done", x.request(1, 0, 5), 0);
        answered(check, x, 0, 0);
    }

    private static void givenUp(Check check) {
        check.sentence("UnsupportedOperationException when it is given up.");
        LineDebugger x = new LineDebugger();
        Target.tellFaults(x, 1, 1, 1, 1);
        check.dueThrows("four lost", Check.UOE, () -> x.request(1, 0, 5));
        Target.tellFaults(x, 2, 3, 4, 5);
        check.dueThrows("four spoilt", Check.UOE, () -> x.request(1, 0, 6));
        check.due("not done", Target.register(x, 0), 0);
        Target.tellFaults(x, 0, 1, 0, 2, 0, 1, 0, 3);
        check.dueThrows("four answers lost or spoilt", Check.UOE, () -> x.request(1, 0, 7));
        check.due("but it was done", Target.register(x, 0), 7);
        Target.tellFaults(x, 0, 1, 0, 1, 0, 1, 0, 1);
        check.dueThrows("refused, but not heard of", Check.UOE, () -> x.request(0, 8, 0));
    }
}
