/** Promise 8. */
public final class UnwindTest {
    public static void main(String[] args) {
        Check check = new Check();
        frameZero(check);
        callersOfARow(check);
        orderOfRequests(check);
        endsAtTheEighth(check);
        endsWhereAWordIsAtNoAddress(check);
        stacksWrap(check);
        seesUnderBreakpoints(check);
        givenUpKeepsTheFrames(check);
        isFromWhatTheMachineHasNow(check);
        check.end();
    }

    private static void frameZero(Check check) {
        LineDebugger x = new LineDebugger();
        for (int r = 0; r < 8; r++) {
            Target.setRegister(x, r, 10 * r - 35);
        }
        Target.setPc(x, 17);
        check.due("frames", x.unwind(), 1);
        for (int r = 0; r < 8; r++) {
            check.due("register " + r, x.frame(0, r), 10 * r - 35);
        }
        check.due("pc", x.frame(0, 8), 17);
        check.due("frames", x.count(7), 1);
        check.due("requests", x.count(0), 18);
    }

    /** A main at 0 .. 9, which no rule has, called f at 10 .. 19, which called g at 20 .. 29. */
    private static LineDebugger calledTwice() {
        LineDebugger x = new LineDebugger();
        x.rule(10, 19, 3, 2);
        x.save(1, 0);
        x.save(0, 1);
        x.rule(20, 29, 2, -1);
        x.save(7, 1);
        Target.loadFrom(x, 40, 900, 15, 111, 100, 4);
        Target.setRegister(x, 0, 70);
        Target.setRegister(x, 1, 71);
        Target.setRegister(x, 2, 72);
        Target.setRegister(x, 6, 40);
        Target.setRegister(x, 7, 14);
        Target.setPc(x, 25);
        return x;
    }

    private static void row(Check check, LineDebugger x, int frame, int... want) {
        for (int r = 0; r < want.length; r++) {
            check.due("frame " + frame + " register " + r, x.frame(frame, r), want[r]);
        }
    }

    private static void callersOfARow(Check check) {
        LineDebugger x = calledTwice();
        check.due("frames", x.unwind(), 3);
        row(check, x, 0, 70, 71, 72, 0, 0, 0, 40, 14, 25);
        row(check, x, 1, 70, 71, 72, 0, 0, 0, 42, 15, 14);
        row(check, x, 2, 100, 111, 72, 0, 0, 0, 45, 15, 4);
        check.due("count", x.count(7), 3);
    }

    /** What the latest request of an unwinding was, if it is given up at its n-th request. */
    private static String requestAt(int n) {
        LineDebugger x = calledTwice();
        for (int i = 1; i < n; i++) {
            Target.tellFaults(x, 0, 0);
        }
        Target.tellFaults(x, 1, 1, 1, 1);
        return Check.outcomeOf(x::unwind) + " " + x.byteAt(1) + " " + x.byteAt(2);
    }

    private static void orderOfRequests(Check check) {
        check.due("first PC", requestAt(1), Check.UOE + " 8 0");
        for (int r = 0; r < 8; r++) {
            check.due("then register " + r, requestAt(2 + r), Check.UOE + " 0 " + r);
        }
        check.due("register 7 of frame 0", requestAt(10), Check.UOE + " 2 41");
        check.due("the return address of frame 1", requestAt(11), Check.UOE + " 2 44");
        check.due("its register 0", requestAt(12), Check.UOE + " 2 43");
        check.due("its register 1", requestAt(13), Check.UOE + " 2 42");
        check.due("and no more", requestAt(14), "3 2 42");
    }

    private static void endsAtTheEighth(Check check) {
        LineDebugger x = new LineDebugger();
        x.rule(0, 0, 1, 0);
        int requests = x.count(0);
        check.due("frames", x.unwind(), 8);
        check.due("seven words were asked for", x.count(0) - requests, 16);
        check.due("the eighth's stack", x.frame(7, 6), 7);
        check.dueThrows("no ninth", Check.IOOBE, () -> x.frame(8, 0));
    }

    private static LineDebugger withStack(int stack, int slot, int register, int savedAt) {
        LineDebugger x = new LineDebugger();
        x.rule(0, 0, 1, slot);
        x.save(register, savedAt);
        x.load(63, 33);
        x.load(62, 22);
        Target.setRegister(x, 6, stack);
        Target.setRegister(x, 7, 99);
        return x;
    }

    private static void ends(Check check, String what, LineDebugger x, int frames, int words) {
        int requests = x.count(0);
        check.due(what + ": frames", x.unwind(), frames);
        check.due(what + ": words asked for", x.count(0) - requests - 9, words);
    }

    private static void endsWhereAWordIsAtNoAddress(Check check) {
        ends(check, "all are there", withStack(62, 1, 0, 0), 2, 2);
        ends(check, "no return address", withStack(63, 1, 0, 0), 1, 0);
        ends(check, "no saved register", withStack(63, 0, 0, 1), 1, 1);
        ends(check, "a return address below 0", withStack(-1, 0, 0, 1), 1, 0);
        ends(check, "a saved register below 0", withStack(-1, 1, 0, 0), 1, 1);
        ends(check, "no saved register, link for return", withStack(64, -1, 7, 0), 1, 0);
        LineDebugger x = withStack(60, -1, 4, 3);
        x.save(0, 2);
        x.save(5, 4);
        ends(check, "the third of three", x, 1, 2);
        check.due("the latest one asked for", x.byteAt(2), 63);
        LineDebugger y = new LineDebugger();
        y.rule(0, 0, 1, 0);
        Target.setRegister(y, 6, 61);
        ends(check, "the fourth frame needs it", y, 4, 3);
        check.due("the last one's stack", y.frame(3, 6), 64);
    }

    private static void stacksWrap(Check check) {
        LineDebugger x = new LineDebugger();
        x.rule(0, 0, 15, -1);
        Target.setRegister(x, 6, Integer.MAX_VALUE);
        Target.setRegister(x, 7, -8);
        check.due("frames", x.unwind(), 2);
        check.due("stack", x.frame(1, 6), Integer.MIN_VALUE + 14);
        check.due("pc", x.frame(1, 8), -8);
        LineDebugger y = withStack(Integer.MAX_VALUE, 15, 0, 15);
        ends(check, "a slot far below 0", y, 1, 0);
    }

    private static void seesUnderBreakpoints(Check check) {
        LineDebugger x = calledTwice();
        Target.putBreakpoint(x, 44);
        Target.putBreakpoint(x, 41);
        check.due("frames", x.unwind(), 3);
        check.due("the link under one", x.frame(1, 7), 15);
        check.due("the return address under one", x.frame(2, 8), 4);
        x.request(3, 41, 16);
        x.unwind();
        check.due("written under one", x.frame(1, 7), 16);
    }

    private static void givenUpKeepsTheFrames(Check check) {
        for (int n = 0; n <= 13; n++) {
            LineDebugger x = calledTwice();
            x.unwind();
            String before = frames(x);
            Target.setPc(x, 12);
            Target.setRegister(x, 0, -1);
            for (int i = 0; i < n; i++) {
                Target.tellFaults(x, 0, 0);
            }
            Target.tellFaults(x, 1, 1, 1, 1);
            int requests = x.count(0);
            boolean ends = n >= 12;
            check.due("given up after " + n, Check.outcomeOf(x::unwind), ends ? "2" : Check.UOE);
            check.due("frames are as before after " + n, frames(x).equals(before), !ends);
            check.due("requests after " + n, x.count(0) - requests, ends ? 12 : n + 1);
        }
        LineDebugger x = new LineDebugger();
        Target.tellFaults(x, 1, 1, 1, 1);
        check.dueThrows("the first one given up", Check.UOE, x::unwind);
        check.due("still none", x.count(7), 0);
        check.due("the next one", x.unwind(), 1);
    }

    private static String frames(LineDebugger x) {
        StringBuilder text = new StringBuilder();
        for (int frame = 0; frame < x.count(7); frame++) {
            for (int r = 0; r <= 8; r++) {
                text.append(x.frame(frame, r)).append(' ');
            }
        }
        return text.toString();
    }

    private static void isFromWhatTheMachineHasNow(Check check) {
        LineDebugger x = calledTwice();
        x.unwind();
        Target.setPc(x, 5);
        Target.setRegister(x, 2, 1);
        check.due("frames stay", x.count(7), 3);
        check.due("and what they have", x.frame(0, 2), 72);
        check.due("fewer now", x.unwind(), 1);
        check.due("register 2", x.frame(0, 2), 1);
        check.dueThrows("frame 1 is gone", Check.IOOBE, () -> x.frame(1, 0));
        Target.setPc(x, 25);
        check.due("more again", x.unwind(), 3);
        row(check, x, 2, 100, 111, 1, 0, 0, 0, 45, 15, 4);
    }
}
