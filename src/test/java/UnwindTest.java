/** Promise 8, and how frames come from one another (Terms: RULES). */
public final class UnwindTest {
    public static void main(String[] args) {
        Check check = new Check();
        frameZero(check);
        theNextFrame(check);
        orderOfRequests(check);
        theNextFramesPc(check);
        theReturnAddressInRegister7(check);
        slots(check);
        stacksWrap(check);
        endsWhereNoRuleHasThePc(check);
        endsAtTheEighth(check);
        endsWhereAWordIsAtNoAddress(check);
        thoseBeforeItWereAskedFor(check);
        seesUnderBreakpoints(check);
        fromWhatTheMachineHasNow(check);
        howMany(check);
        givenUp(check);
        givenUpKeepsTheFrames(check);
        check.end();
    }

    private static void row(Check check, LineDebugger x, int frame, int... want) {
        for (int r = 0; r < want.length; r++) {
            check.due("frame " + frame + " register " + r, x.frame(frame, r), want[r]);
        }
    }

    private static void frameZero(Check check) {
        check.sentence("FRAME 0 has the machine's PC and registers.");
        LineDebugger x = new LineDebugger();
        for (int r = 0; r < 8; r++) {
            Target.setRegister(x, r, 10 * r - 35);
        }
        Target.setPc(x, 17);
        check.due("frames", x.unwind(), 1);
        row(check, x, 0, -35, -25, -15, -5, 5, 15, 25, 35, 17);
        check.due("count", x.count(7), 1);
    }

    /** A main at 0 .. 9, which no rule has, called f at 10 .. 19, which called g at 20 .. 29. */
    private static LineDebugger calledTwice() {
        LineDebugger x = new LineDebugger();
        x.rule(10, 19, 3, 2);
        x.save(1, 0);
        x.save(0, 1);
        x.rule(20, 29, 2, -1);
        x.save(7, 1);
        Target.loadFrom(x, 40, 900, 15, 111, 100, 4);
        Target.setRegister(x, 0, 70);
        Target.setRegister(x, 1, 71);
        Target.setRegister(x, 2, 72);
        Target.setRegister(x, 6, 40);
        Target.setRegister(x, 7, 14);
        Target.setPc(x, 25);
        return x;
    }

    private static void theNextFrame(Check check) {
        check.sentence("its stack is this stack + size, and its other registers are this frame's, "
                + "but for the saved ones, which are as they were saved");
        LineDebugger x = calledTwice();
        check.due("frames", x.unwind(), 3);
        row(check, x, 0, 70, 71, 72, 0, 0, 0, 40, 14, 25);
        row(check, x, 1, 70, 71, 72, 0, 0, 0, 42, 15, 14);
        row(check, x, 2, 100, 111, 72, 0, 0, 0, 45, 15, 4);
        check.due("count", x.count(7), 3);
    }

    /** What the latest request of an unwinding was, if it is given up at its n-th request. */
    private static String requestAt(int n) {
        LineDebugger x = calledTwice();
        for (int i = 1; i < n; i++) {
            Target.tellFaults(x, 0, 0);
        }
        Target.tellFaults(x, 1, 1, 1, 1);
        return Check.outcomeOf(x::unwind) + " " + x.byteAt(1) + " " + x.byteAt(2);
    }

    private static void orderOfRequests(Check check) {
        check.sentence("asks for PC, then registers 0 to 7, then, frame by frame, for the return "
                + "address, if it is a word, and for saved registers, by their numbers");
        check.due("first PC", requestAt(1), Check.UOE + " 8 0");
        for (int r = 0; r < 8; r++) {
            check.due("then register " + r, requestAt(2 + r), Check.UOE + " 0 " + r);
        }
        check.due("register 7 of frame 0", requestAt(10), Check.UOE + " 2 41");
        check.due("the return address of frame 1", requestAt(11), Check.UOE + " 2 44");
        check.due("its register 0", requestAt(12), Check.UOE + " 2 43");
        check.due("its register 1", requestAt(13), Check.UOE + " 2 42");
        check.due("and no more", requestAt(14), "3 2 42");
    }

    private static void theNextFramesPc(Check check) {
        check.sentence("the next frame's PC is the return address");
        for (int pc : new int[] {-1, 1, 63, 64, Target.LOWEST, Target.HIGHEST}) {
            LineDebugger x = new LineDebugger();
            x.rule(0, 0, 1, 2);
            x.load(2, pc);
            check.due("frames", x.unwind(), 2);
            check.due("a word as it is", x.frame(1, 8), pc);
        }
    }

    private static void theReturnAddressInRegister7(Check check) {
        check.sentence("(a word of the machine, asked for over the line, unless it is in register 7: "
                + "then this frame's)");
        LineDebugger x = new LineDebugger();
        x.rule(0, 0, 1, -1);
        x.save(7, 0);
        x.load(40, 8);
        Target.setRegister(x, 6, 40);
        Target.setRegister(x, 7, 50);
        int requests = x.count(0);
        check.due("frames", x.unwind(), 2);
        check.due("this frame's, not the saved one", x.frame(1, 8), 50);
        check.due("the saved one is the next frame's", x.frame(1, 7), 8);
        check.due("one word was asked for", x.count(0) - requests - 9, 1);
    }

    /** Frames of PC 0; a register is saved, and a return address (99) and its word lie apart. */
    private static LineDebugger withStack(int stack, int slot, int register, int savedAt) {
        LineDebugger x = new LineDebugger();
        x.rule(0, 0, 1, slot);
        x.save(register, savedAt);
        x.load(63, 33);
        x.load(62, 22);
        Target.setRegister(x, 6, stack);
        Target.setRegister(x, 7, 99);
        return x;
    }

    private static void ends(Check check, String what, LineDebugger x, int frames, int words) {
        int requests = x.count(0);
        check.due(what + ": frames", x.unwind(), frames);
        check.due(what + ": words asked for", x.count(0) - requests - 9, words);
    }

    private static void slots(Check check) {
        check.sentence("The SLOT k of a frame is the word at its stack + k.");
        ends(check, "the last two words", withStack(62, 1, 0, 0), 2, 2);
        LineDebugger x = withStack(48, 15, 0, 14);
        ends(check, "the last two slots", x, 2, 2);
        check.due("pc", x.frame(1, 8), 33);
        check.due("register 0", x.frame(1, 0), 22);
        LineDebugger y = withStack(-15, 15, 1, 15);
        y.load(0, 44);
        ends(check, "a stack below 0, with a slot at 0", y, 2, 2);
        check.due("pc", y.frame(1, 8), 44);
        check.due("register 1", y.frame(1, 1), 44);
    }

    private static void stacksWrap(Check check) {
        check.sentence("its stack is this stack + size");
        LineDebugger x = new LineDebugger();
        x.rule(0, 0, 15, -1);
        Target.setRegister(x, 6, Target.HIGHEST);
        Target.setRegister(x, 7, -8);
        check.due("frames", x.unwind(), 2);
        check.due("stack", x.frame(1, 6), Target.LOWEST + 14);
        check.due("pc", x.frame(1, 8), -8);
        ends(check, "a slot that wraps", withStack(Target.HIGHEST, 15, 0, 15), 1, 0);
        ends(check, "a slot far below 0", withStack(Target.LOWEST, 0, 0, 15), 1, 0);
    }

    private static void endsWhereNoRuleHasThePc(Check check) {
        check.sentence("Frames end with one whose PC no rule has");
        LineDebugger x = new LineDebugger();
        check.due("without rules", x.unwind(), 1);
        x.rule(1, 5, 0, -1);
        check.due("at frame 0", x.unwind(), 1);
        Target.setPc(x, 1);
        Target.setRegister(x, 7, 6);
        check.due("at frame 1", x.unwind(), 2);
        check.due("it has its PC", x.frame(1, 8), 6);
        x.rule(6, 6, 1, 0);
        x.load(0, 0);
        check.due("at frame 2", x.unwind(), 3);
        Target.setPc(x, Target.LOWEST);
        check.due("a PC at no address", x.unwind(), 1);
    }

    private static void endsAtTheEighth(Check check) {
        check.sentence("at the eighth one");
        LineDebugger x = new LineDebugger();
        x.rule(0, 0, 1, 0);
        ends(check, "a rule has every PC", x, 8, 7);
        check.due("the eighth's stack", x.frame(7, 6), 7);
        check.dueThrows("no ninth", Check.IOOBE, () -> x.frame(8, 0));
        Target.loadFrom(x, 0, 0, 0, 0, 0, 0, 0, 9);
        ends(check, "no rule has the eighth's", x, 8, 7);
        Target.loadFrom(x, 0, 0, 0, 0, 0, 0, 9);
        ends(check, "no rule has the seventh's", x, 7, 6);
        LineDebugger y = new LineDebugger();
        y.rule(0, 0, 1, 0);
        Target.setRegister(y, 6, 57);
        ends(check, "the eighth's word would be at 64", y, 8, 7);
        Target.setRegister(y, 6, 58);
        ends(check, "the seventh's word is at 64", y, 7, 6);
    }

    private static void endsWhereAWordIsAtNoAddress(Check check) {
        check.sentence("or where a word that is to be asked for is at no address "
                + "(the frame that needs it is the last one then");
        ends(check, "all are there", withStack(62, 1, 0, 0), 2, 2);
        ends(check, "no return address", withStack(63, 1, 0, 0), 1, 0);
        ends(check, "a return address below 0", withStack(-1, 0, 0, 1), 1, 0);
        ends(check, "no saved register, link for return", withStack(64, -1, 7, 0), 1, 0);
        ends(check, "link for return, a stack nowhere", calledWithoutSaves(), 8, 0);
        LineDebugger x = new LineDebugger();
        x.rule(0, 0, 1, 0);
        Target.setRegister(x, 6, 61);
        ends(check, "the fourth frame needs it", x, 4, 3);
        check.due("the last one's stack", x.frame(3, 6), 64);
        check.dueThrows("no fifth", Check.IOOBE, () -> x.frame(4, 8));
    }

    private static LineDebugger calledWithoutSaves() {
        LineDebugger x = new LineDebugger();
        x.rule(0, 0, 15, -1);
        Target.setRegister(x, 6, -1000);
        return x;
    }

    private static void thoseBeforeItWereAskedFor(Check check) {
        check.sentence("those before it in its row were asked for");
        ends(check, "no saved register", withStack(63, 0, 0, 1), 1, 1);
        ends(check, "a saved register below 0", withStack(-1, 1, 0, 0), 1, 1);
        LineDebugger x = withStack(60, -1, 4, 3);
        x.save(0, 2);
        x.save(5, 4);
        ends(check, "the third of three", x, 1, 2);
        check.due("the latest one asked for", x.byteAt(2), 63);
        LineDebugger y = withStack(60, 0, 0, 4);
        y.save(1, 1);
        ends(check, "the second of three", y, 1, 1);
        check.due("the latest one asked for", y.byteAt(2), 60);
    }

    private static void seesUnderBreakpoints(Check check) {
        check.sentence("(under a breakpoint the word that was there)");
        LineDebugger x = calledTwice();
        Target.putBreakpoint(x, 44);
        Target.putBreakpoint(x, 41);
        check.due("frames", x.unwind(), 3);
        check.due("the link under one", x.frame(1, 7), 15);
        check.due("the return address under one", x.frame(2, 8), 4);
        Target.setWord(x, 41, 16);
        x.unwind();
        check.due("written under one", x.frame(1, 7), 16);
    }

    private static void fromWhatTheMachineHasNow(Check check) {
        check.sentence("Unwinds the frames, from what the machine has now");
        LineDebugger x = calledTwice();
        x.unwind();
        Target.setPc(x, 5);
        Target.setRegister(x, 2, 1);
        check.due("frames stay", x.count(7), 3);
        check.due("and what they have", x.frame(0, 2), 72);
        check.due("fewer now", x.unwind(), 1);
        check.due("register 2", x.frame(0, 2), 1);
        check.dueThrows("frame 1 is gone", Check.IOOBE, () -> x.frame(1, 0));
        Target.setPc(x, 25);
        check.due("more again", x.unwind(), 3);
        row(check, x, 2, 100, 111, 1, 0, 0, 0, 45, 15, 4);
    }

    private static void howMany(Check check) {
        check.sentence("How many frames.");
        for (int frames = 1; frames <= 8; frames++) {
            LineDebugger x = new LineDebugger();
            x.rule(0, 0, 1, 0);
            x.load(frames - 2, 1);
            Target.setPc(x, frames == 1 ? 1 : 0);
            check.due("frames", x.unwind(), frames);
            check.due("count", x.count(7), frames);
        }
    }

    private static void givenUp(Check check) {
        check.sentence("Throws UnsupportedOperationException when a request is given up");
        LineDebugger x = new LineDebugger();
        Target.tellFaults(x, 1, 1, 1, 1);
        check.dueThrows("the first one", Check.UOE, x::unwind);
        check.due("nothing was asked for behind it", x.count(0), 1);
        check.due("no frames", x.count(7), 0);
        Target.tellFaults(x, 1, 9, 1, 0, 9);
        check.dueThrows("the last answer spoilt", Check.UOE, x::unwind);
        Target.tellFaults(x, 1, 9, 1, 0, 0, 0, 1);
        check.due("three times lost, once not", x.unwind(), 1);
    }

    private static void givenUpKeepsTheFrames(Check check) {
        check.sentence("the frames are as before then");
        for (int n = 0; n <= 13; n++) {
            LineDebugger x = calledTwice();
            x.unwind();
            String before = View.ofFrames(x);
            Target.setPc(x, 12);
            Target.setRegister(x, 0, -1);
            for (int i = 0; i < n; i++) {
                Target.tellFaults(x, 0, 0);
            }
            Target.tellFaults(x, 1, 1, 1, 1);
            int requests = x.count(0);
            boolean ends = n >= 12;
            check.due("given up after " + n, Check.outcomeOf(x::unwind), ends ? "2" : Check.UOE);
            check.due("frames are as before after " + n, View.ofFrames(x).equals(before), !ends);
            check.due("requests after " + n, x.count(0) - requests, ends ? 12 : n + 1);
        }
    }
}
