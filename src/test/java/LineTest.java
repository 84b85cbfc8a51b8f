/** Sending again, doing once, and throwing away (Terms: THE LINE), by promise 4 and its counts. */
public final class LineTest {
    public static void main(String[] args) {
        Check check = new Check();
        numbersGoRound(check);
        numberOfAGivenUpOne(check);
        noFault(check);
        lost(check);
        anyBitTurned(check);
        bitsGoRound(check);
        withoutOneTold(check);
        thrownAway(check);
        doneOnlyOnce(check);
        keptAnswerComesAgain(check);
        upToFourTimes(check);
        untilAnAnswerComes(check);
        doneThoughGivenUp(check);
        check.end();
    }

    private static void line(Check check, String what, LineDebugger x, int sent, int answers, int thrown) {
        check.due(what + ": frames of the debugger", x.count(1), sent);
        check.due(what + ": frames of the stub", x.count(2), answers);
        check.due(what + ": thrown away", x.count(3), thrown);
        check.due(what + ": faults that wait", x.count(4), 0);
    }

    /** Its words from 0 to 39 add one to register 0, so that each step that is done shows. */
    private static LineDebugger counter() {
        LineDebugger x = new LineDebugger();
        for (int i = 0; i < 40; i++) {
            x.load(i, Target.ADD_ONE);
        }
        return x;
    }

    private static LineDebugger counterWith(int... faults) {
        LineDebugger x = counter();
        Target.tellFaults(x, faults);
        return x;
    }

    private static void numbersGoRound(Check check) {
        check.sentence("The numbers of requests go 1, 2, .. , 255, 1, 2, ..");
        LineDebugger x = counter();
        for (int i = 1; i <= 254; i++) {
            Target.setPc(x, 0);
            if (i < 4 || i > 126 && i < 130 || i > 252) {
                check.due("number " + i, x.byteAt(0), i);
            }
        }
        check.due("the 255th is done", Target.step(x), 1);
        check.due("number 255", x.byteAt(0), 255);
        check.due("the one after it is done", Target.step(x), 1);
        check.due("number 1 again", x.byteAt(0), 1);
        check.due("and answered so", x.byteAt(16), 1);
        check.due("the next is done", Target.step(x), 1);
        check.due("number 2 again", x.byteAt(0), 2);
        check.due("steps", x.count(5), 3);
        check.due("requests", x.count(0), 257);
    }

    private static void numberOfAGivenUpOne(Check check) {
        check.sentence("The numbers of requests go 1, 2, .. , 255, 1, 2, ..");
        LineDebugger x = counterWith(1, 1, 1, 1);
        check.dueThrows("given up", Check.UOE, () -> Target.step(x));
        check.due("number of a given up one", x.byteAt(0), 1);
        check.dueThrows("refused", Check.IAE, () -> Target.takeBreakpoint(x, 1));
        check.due("number of a refused one", x.byteAt(0), 2);
        x.unwind();
        check.due("number of an unwinding's last", x.byteAt(0), 11);
        check.dueThrows("not sent", Check.IAE, () -> x.request(10, 0, 0));
        Target.step(x);
        check.due("number behind one that was not sent", x.byteAt(0), 12);
    }

    private static void noFault(Check check) {
        check.sentence("Each frame that is sent meets the next FAULT that was told: 0 none");
        LineDebugger x = counterWith(0, 0);
        check.due("a step", Target.step(x), 1);
        line(check, "both met none", x, 1, 1, 0);
    }

    private static void lost(Check check) {
        check.sentence("1 it is LOST");
        LineDebugger x = counterWith(1);
        check.due("a step whose request was lost", Target.step(x), 1);
        line(check, "a lost request", x, 2, 1, 0);
        check.due("steps", x.count(5), 1);
        LineDebugger y = counterWith(0, 1);
        check.due("a step whose answer was lost", Target.step(y), 1);
        line(check, "a lost answer", y, 2, 2, 0);
        check.due("steps", y.count(5), 1);
    }

    private static void spoilt(Check check, int fault) {
        LineDebugger x = counterWith(fault);
        check.due("a request with " + fault, Target.step(x), 1);
        line(check, "a request with " + fault, x, 2, 1, 1);
        check.due("steps", x.count(5), 1);
        LineDebugger y = counterWith(0, fault);
        check.due("an answer with " + fault, Target.step(y), 1);
        line(check, "an answer with " + fault, y, 2, 2, 1);
        check.due("steps", y.count(5), 1);
    }

    private static void anyBitTurned(Check check) {
        check.sentence("k from 2 on: its bit (k - 2) mod (8 * its bytes) is turned");
        for (int fault = 2; fault < 2 + 56; fault++) {
            spoilt(check, fault);
        }
    }

    private static void bitsGoRound(Check check) {
        check.sentence("its bit (k - 2) mod (8 * its bytes) is turned");
        for (int fault = 2 + 56; fault < 2 + 130; fault++) {
            spoilt(check, fault);
        }
        spoilt(check, Target.HIGHEST - 1);
        spoilt(check, Target.HIGHEST);
    }

    private static void withoutOneTold(Check check) {
        check.sentence("Without one told it meets none.");
        LineDebugger x = counterWith(1);
        Target.step(x);
        for (int i = 0; i < 5; i++) {
            check.due("a step", Target.step(x), 1);
        }
        line(check, "only the first met one", x, 7, 6, 0);
    }

    private static void thrownAway(Check check) {
        check.sentence("A frame whose sum isn't right is thrown away.");
        LineDebugger x = counterWith(2, 2 + 63);
        check.due("spoilt in the number, then in the sum", Target.step(x), 1);
        line(check, "requests", x, 3, 1, 2);
        check.due("done once", x.count(5), 1);
        LineDebugger y = counterWith(0, 2, 0, 2 + 55);
        check.due("answers spoilt so", Target.step(y), 1);
        line(check, "answers", y, 3, 3, 2);
        check.due("done once", y.count(5), 1);
        // The sum's low bits alone count: 9 + 255 * 4 + 1 is above 255.
        check.due("a sum above 255 is right", Target.setPc(y, -1), 0);
        check.due("nothing more was thrown away", y.count(3), 2);
    }

    private static void doneOnlyOnce(Check check) {
        check.sentence("The stub does a request whose number is not that of the latest one that it did");
        LineDebugger x = counterWith(0, 1, 0, 7, 0, 1, 0, 0);
        check.due("four times received", Target.step(x), 1);
        line(check, "four times received", x, 4, 4, 1);
        check.due("steps", x.count(5), 1);
        check.due("register", Target.register(x, 0), 1);
        Target.tellFaults(x, 0, 1);
        check.due("a breakpoint put once", Target.putBreakpoint(x, 5), 0);
        check.due("one", x.count(6), 1);
        Target.tellFaults(x, 0, 2);
        check.dueThrows("one refused once", Check.IAE, () -> Target.putBreakpoint(x, 5));
        Target.tellFaults(x, 0, 1, 0, 1, 0, 1);
        check.due("one taken once", Target.takeBreakpoint(x, 5), 0);
        check.due("none", x.count(6), 0);
        check.due("the same request again is another", Target.step(x), 1);
        check.due("steps", x.count(5), 2);
    }

    private static void keptAnswerComesAgain(Check check) {
        check.sentence("and keeps the answer; for that number it sends the kept answer again");
        LineDebugger x = counter();
        Target.setRegister(x, 3, -123456789);
        Target.tellFaults(x, 0, 40, 0, 1);
        check.due("a value from the kept answer", Target.register(x, 3), -123456789);
        line(check, "a value from the kept answer", x, 4, 4, 1);
        Target.tellFaults(x, 0, 1);
        check.due("a stop from the kept answer", Target.run(x, 3), 5);
        check.due("steps", x.count(5), 3);
        Target.tellFaults(x, 0, 1, 0, 1);
        check.dueThrows("a status from the kept answer", Check.IAE, () -> Target.register(x, 8));
        check.due("its number", x.byteAt(16), x.byteAt(0));
    }

    private static void upToFourTimes(Check check) {
        check.sentence("The debugger sends a request, up to four times in all");
        LineDebugger x = counterWith(1, 1, 1);
        check.due("the fourth comes through", Target.step(x), 1);
        line(check, "the fourth comes through", x, 4, 1, 0);
        LineDebugger y = counterWith(1, 1, 1, 1);
        check.dueThrows("none of four comes through", Check.UOE, () -> Target.step(y));
        line(check, "none of four comes through", y, 4, 0, 0);
        check.due("requests", y.count(0), 1);
        LineDebugger z = counterWith(0, 1, 0, 1, 0, 1);
        check.due("the fourth answer comes through", Target.step(z), 1);
        line(check, "the fourth answer comes through", z, 4, 4, 0);
    }

    private static void untilAnAnswerComes(Check check) {
        check.sentence("until an answer with its number comes");
        LineDebugger x = counter();
        Target.step(x);
        line(check, "at once", x, 1, 1, 0);
        Target.tellFaults(x, 1, 9, 0, 0);
        check.due("the third time", Target.step(x), 1);
        line(check, "the third time", x, 4, 2, 1);
        Target.tellFaults(x, 0, 0, 1);
        Target.step(x);
        check.due("the fault for the next one waits", x.count(4), 1);
    }

    private static void doneThoughGivenUp(Check check) {
        check.sentence("after that the request is GIVEN UP (the stub may have done it)");
        LineDebugger x = counterWith(1, 9, 0, 1, 0, 9);
        check.dueThrows("given up", Check.UOE, () -> Target.step(x));
        line(check, "given up", x, 4, 2, 2);
        check.due("but done, once", x.count(5), 1);
        check.due("the next one is another", Target.step(x), 1);
        check.due("done too", x.count(5), 2);
        Target.tellFaults(x, 5, 6, 7, 8);
        check.dueThrows("all spoilt", Check.UOE, () -> Target.step(x));
        line(check, "all spoilt", x, 9, 3, 6);
        check.due("not done", x.count(5), 2);
    }
}
