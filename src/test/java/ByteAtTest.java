/** Promise 5, and the bytes of the frames (Terms: THE LINE). */
public final class ByteAtTest {
    public static void main(String[] args) {
        Check check = new Check();
        aRequestsFrame(check);
        anAnswersFrame(check);
        asZeroTo255(check);
        sumsOfLowBits(check);
        theLatestRequest(check);
        theLatestAnswer(check);
        beforeAnyFault(check);
        noneSuch(check);
        noneYet(check);
        requestsOfUnwindingsAndExpressions(check);
        check.end();
    }

    private static void bytes(Check check, String what, LineDebugger x, int first, int... want) {
        for (int i = 0; i < want.length; i++) {
            check.due(what + " " + i, x.byteAt(first + i), want[i]);
        }
    }

    private static void aRequestsFrame(Check check) {
        check.sentence("A request is a FRAME of eight bytes: its number, kind, a (low eight bits), "
                + "the four bytes of v (the lowest first), and the SUM of the seven before, low eight bits.");
        LineDebugger x = new LineDebugger();
        x.request(1, 256 + 5, 0x07654321);
        bytes(check, "a request", x, 0, 1, 1, 5, 0x21, 0x43, 0x65, 0x07, 0xd7);
    }

    private static void anAnswersFrame(Check check) {
        check.sentence("An answer is a frame of seven: the request's number, status, "
                + "the value's four bytes, the sum likewise.");
        LineDebugger x = new LineDebugger();
        x.request(1, 5, 0x07654321);
        bytes(check, "an answer of 0", x, 16, 1, 0, 0, 0, 0, 0, 1);
        x.request(0, 5, -1);
        bytes(check, "an answer", x, 16, 2, 0, 0x21, 0x43, 0x65, 0x07, 0xd2);
        check.dueThrows("refused", Check.IAE, () -> x.request(4, 64, 0));
        bytes(check, "a refusal", x, 16, 3, 1, 0, 0, 0, 0, 4);
    }

    private static void asZeroTo255(Check check) {
        check.sentence("A byte, as 0 .. 255");
        LineDebugger x = new LineDebugger();
        x.request(9, -1, -1);
        bytes(check, "all bits", x, 0, 1, 9, 255, 255, 255, 255, 255, 5);
        x.request(8, 0x80, 0x80818283);
        bytes(check, "the highest bits", x, 0, 2, 8, 0x80, 0x83, 0x82, 0x81, 0x80, 0x90);
        bytes(check, "answered", x, 16, 2, 0, 255, 255, 255, 255, 254);
    }

    private static void sumsOfLowBits(Check check) {
        check.sentence("the SUM of the seven before, low eight bits");
        int[][] vAndSum = {{246, 0}, {247, 1}, {245, 255}, {0, 10}};
        for (int[] each : vAndSum) {
            LineDebugger x = new LineDebugger();
            x.request(9, 0, each[0]);
            check.due("request's sum with " + each[0], x.byteAt(7), each[1]);
        }
        int[][] pcAndSum = {{253, 255}, {254, 0}, {255, 1}};
        for (int[] each : pcAndSum) {
            LineDebugger x = new LineDebugger();
            x.request(9, 0, each[0]);
            x.request(8, 0, 0);
            check.due("answer's sum with " + each[0], x.byteAt(22), each[1]);
        }
    }

    private static void theLatestRequest(Check check) {
        check.sentence("of the latest request's frame (i 0 .. 7)");
        LineDebugger x = new LineDebugger();
        x.request(9, 1, 2);
        bytes(check, "the first", x, 0, 1, 9, 1, 2, 0, 0, 0, 13);
        x.request(8, 0, 0);
        bytes(check, "the second", x, 0, 2, 8, 0, 0, 0, 0, 0, 10);
        check.dueThrows("not sent", Check.IAE, () -> x.request(10, 3, 3));
        bytes(check, "the second still", x, 0, 2, 8, 0, 0, 0, 0, 0, 10);
        Target.tellFaults(x, 1, 1, 1, 1);
        check.dueThrows("given up", Check.UOE, () -> x.request(0, 3, 0));
        bytes(check, "a given up one", x, 0, 3, 0, 3, 0, 0, 0, 0, 6);
    }

    private static void theLatestAnswer(Check check) {
        check.sentence("or of the latest answer's that the stub sent (16 .. 22)");
        LineDebugger x = new LineDebugger();
        x.request(9, 0, 9);
        x.request(8, 0, 0);
        bytes(check, "an answer", x, 16, 2, 0, 9, 0, 0, 0, 11);
        Target.tellFaults(x, 1, 1, 1, 1);
        check.dueThrows("none was sent", Check.UOE, () -> x.request(0, 3, 0));
        bytes(check, "the one before", x, 16, 2, 0, 9, 0, 0, 0, 11);
        Target.tellFaults(x, 0, 1, 1, 1, 1);
        check.dueThrows("sent, but lost", Check.UOE, () -> x.request(0, 8, 0));
        bytes(check, "the lost one", x, 16, 4, 1, 0, 0, 0, 0, 5);
    }

    private static void beforeAnyFault(Check check) {
        check.sentence("before any fault");
        LineDebugger x = new LineDebugger();
        Target.tellFaults(x, 2, 3, 4, 65);
        check.dueThrows("given up", Check.UOE, () -> x.request(9, 0, 6));
        bytes(check, "a spoilt request", x, 0, 1, 9, 0, 6, 0, 0, 0, 16);
        bytes(check, "no answer yet", x, 16, 0, 0, 0, 0, 0, 0, 0);
        Target.tellFaults(x, 0, 2, 0, 30, 0, 57, 0, 1);
        check.dueThrows("given up", Check.UOE, () -> x.request(8, 0, 0));
        bytes(check, "its request", x, 0, 2, 8, 0, 0, 0, 0, 0, 10);
        bytes(check, "a spoilt answer", x, 16, 2, 0, 0, 0, 0, 0, 2);
    }

    private static void noneSuch(Check check) {
        check.sentence("0 when there is none such.");
        LineDebugger x = new LineDebugger();
        Target.setPc(x, -1);
        Target.pc(x);
        for (int i : new int[] {-1, 8, 9, 15, 23, 24, 32, Target.LOWEST, Target.HIGHEST}) {
            check.due("byte " + i, x.byteAt(i), 0);
        }
        check.due("byte 0", x.byteAt(0), 2);
        check.due("byte 7", x.byteAt(7), 10);
        check.due("byte 16", x.byteAt(16), 2);
        check.due("byte 22", x.byteAt(22), 254);
    }

    private static void noneYet(Check check) {
        check.sentence("0 when there is none such.");
        LineDebugger x = new LineDebugger();
        for (int i = 0; i <= 22; i++) {
            check.due("byte " + i + " before any request", x.byteAt(i), 0);
        }
        Target.tellFaults(x, 1, 1, 1, 1);
        check.dueThrows("given up", Check.UOE, () -> x.request(9, 7, 6));
        check.due("a byte of the request", x.byteAt(2), 7);
        for (int i = 16; i <= 22; i++) {
            check.due("byte " + i + " before any answer", x.byteAt(i), 0);
        }
    }

    private static void requestsOfUnwindingsAndExpressions(Check check) {
        check.sentence("of the latest request's frame (i 0 .. 7)");
        LineDebugger x = new LineDebugger();
        x.load(20, 77);
        Target.tellFaults(x, 1, 1, 1, 1);
        check.dueThrows("given up", Check.UOE, x::unwind);
        bytes(check, "PC is asked for", x, 0, 1, 8, 0, 0, 0, 0, 0, 9);
        x.unwind();
        bytes(check, "register 7 is asked for", x, 0, 10, 0, 7, 0, 0, 0, 0, 17);
        Target.giveOperations(x, new int[] {0, 20}, new int[] {2});
        x.evaluate(0);
        bytes(check, "a word is asked for", x, 0, 11, 2, 20, 0, 0, 0, 0, 33);
        bytes(check, "and answered", x, 16, 11, 0, 77, 0, 0, 0, 88);
        x.rule(0, 0, 0, 4);
        x.load(4, 5);
        x.unwind();
        bytes(check, "a return address is asked for", x, 0, 21, 2, 4, 0, 0, 0, 0, 27);
    }
}
