/** Promise 5. */
public final class ByteAtTest {
    public static void main(String[] args) {
        Check check = new Check();
        everyByte(check);
        noneSuch(check);
        beforeAnyFault(check);
        latestAnswerOfAnEarlierRequest(check);
        alsoOfUnwindingsAndExpressions(check);
        check.end();
    }

    private static void bytes(Check check, String what, LineDebugger x, int first, int... want) {
        for (int i = 0; i < want.length; i++) {
            check.due(what + " " + i, x.byteAt(first + i), want[i]);
        }
    }

    private static void everyByte(Check check) {
        LineDebugger x = new LineDebugger();
        x.request(1, 256 + 5, 0x87654321);
        bytes(check, "a request", x, 0, 1, 1, 5, 0x21, 0x43, 0x65, 0x87, 0x157 & 255);
        bytes(check, "its answer", x, 16, 1, 0, 0, 0, 0, 0, 1);
        x.request(0, 5, -1);
        bytes(check, "a request", x, 0, 2, 0, 5, 255, 255, 255, 255, (7 + 4 * 255) & 255);
        bytes(check, "its answer", x, 16, 2, 0, 0x21, 0x43, 0x65, 0x87, 0x152 & 255);
        check.dueThrows("refused", Check.IAE, () -> x.request(4, -1, 0));
        bytes(check, "a refused request", x, 0, 3, 4, 255, 0, 0, 0, 0, 262 & 255);
        bytes(check, "its answer", x, 16, 3, 1, 0, 0, 0, 0, 4);
    }

    private static void noneSuch(Check check) {
        LineDebugger x = new LineDebugger();
        Target.setPc(x, -1);
        Target.pc(x);
        for (int i : new int[] {-1, 8, 9, 15, 23, 24, Integer.MIN_VALUE, Integer.MAX_VALUE}) {
            check.due("byte " + i, x.byteAt(i), 0);
        }
        check.due("byte 16", x.byteAt(16), 2);
        check.due("byte 22", x.byteAt(22), (2 + 4 * 255) & 255);
    }

    private static void beforeAnyFault(Check check) {
        LineDebugger x = new LineDebugger();
        Target.tellFaults(x, 2, 3, 4, 5);
        check.dueThrows("given up", Check.UOE, () -> x.request(9, 0, 6));
        bytes(check, "a spoilt request", x, 0, 1, 9, 0, 6, 0, 0, 0, 16);
        bytes(check, "no answer yet", x, 16, 0, 0, 0, 0, 0, 0, 0);
        Target.tellFaults(x, 0, 2, 0, 30, 0, 50, 0, 1);
        check.dueThrows("given up", Check.UOE, () -> x.request(8, 0, 0));
        bytes(check, "a spoilt answer", x, 16, 2, 0, 0, 0, 0, 0, 2);
    }

    private static void latestAnswerOfAnEarlierRequest(Check check) {
        LineDebugger x = new LineDebugger();
        Target.setPc(x, 9);
        Target.pc(x);
        Target.tellFaults(x, 1, 1, 1, 1);
        check.dueThrows("given up", Check.UOE, () -> x.request(0, 3, 0));
        bytes(check, "the latest request", x, 0, 3, 0, 3, 0, 0, 0, 0, 6);
        bytes(check, "the latest answer", x, 16, 2, 0, 9, 0, 0, 0, 11);
    }

    private static void alsoOfUnwindingsAndExpressions(Check check) {
        LineDebugger x = new LineDebugger();
        x.load(20, 77);
        x.unwind();
        bytes(check, "the ninth request is for register 7", x, 0, 9, 0, 7, 0, 0, 0, 0, 16);
        Target.giveOperations(x, new int[] {0, 20}, new int[] {2});
        x.evaluate(0);
        bytes(check, "a word is asked for", x, 0, 10, 2, 20, 0, 0, 0, 0, 32);
        bytes(check, "and answered", x, 16, 10, 0, 77, 0, 0, 0, 87);
    }
}
