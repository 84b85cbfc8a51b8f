/** Promise 3. */
public final class FaultTest {
    public static void main(String[] args) {
        Check check = new Check();
        forTheNextFrame(check);
        howManyWait(check);
        belowZero(check);
        fortyWait(check);
        placesAreUsedAgain(check);
        check.end();
    }

    private static void forTheNextFrame(Check check) {
        check.sentence("Tells a fault for the next frame that has none yet.");
        LineDebugger x = new LineDebugger();
        Target.tellFaults(x, 0, 0, 1);
        Target.pc(x);
        check.due("the first request met none", x.count(1), 1);
        Target.tellFaults(x, 9);
        Target.pc(x);
        check.due("the second was lost, then spoilt", x.count(1), 4);
        check.due("one was thrown away", x.count(3), 1);
        check.due("none waits", x.count(4), 0);
        Target.pc(x);
        check.due("the third met none", x.count(1), 5);
    }

    private static void howManyWait(Check check) {
        check.sentence("How many wait.");
        LineDebugger x = new LineDebugger();
        check.due("one", x.fault(0), 1);
        check.due("two", x.fault(Target.HIGHEST), 2);
        check.due("three", x.fault(1), 3);
        check.due("count", x.count(4), 3);
        Target.pc(x);
        check.due("all were met", x.count(4), 0);
        check.due("one again", x.fault(1), 1);
    }

    private static void belowZero(Check check) {
        check.sentence("Throws IllegalArgumentException when it is below 0");
        LineDebugger x = new LineDebugger();
        for (int fault : new int[] {-1, -2, Target.LOWEST}) {
            check.dueThrows("fault " + fault, Check.IAE, () -> x.fault(fault));
        }
        check.due("none waits", x.count(4), 0);
        check.due("0 is a fault", x.fault(0), 1);
    }

    private static void fortyWait(Check check) {
        check.sentence("IllegalStateException when 40 wait.");
        LineDebugger x = new LineDebugger();
        for (int i = 1; i <= 40; i++) {
            check.due("fault " + i, x.fault(i == 40 ? 1 : 0), i);
        }
        String before = View.of(x);
        check.dueThrows("a 41st", Check.ISE, () -> x.fault(9));
        check.dueThrows("a 41st below 0", Check.IAE, () -> x.fault(-1));
        check.due("it kept the state", View.of(x), before);
        Target.pc(x);
        check.due("two were met", x.count(4), 38);
        check.due("room for one", x.fault(0), 39);
        check.due("and one more", x.fault(0), 40);
        check.dueThrows("and no more", Check.ISE, () -> x.fault(9));
        for (int i = 2; i <= 20; i++) {
            Target.pc(x);
        }
        check.due("only the 40th was none of 0", x.count(1), 21);
        check.due("nothing was spoilt", x.count(3), 0);
    }

    private static void placesAreUsedAgain(Check check) {
        check.sentence("Tells a fault for the next frame that has none yet.");
        LineDebugger x = new LineDebugger();
        for (int round = 0; round < 6; round++) {
            for (int i = 0; i < 30; i++) {
                x.fault(i % 3 == 0 ? 1 : 0);
            }
            int sent = x.count(1);
            for (int i = 0; i < 10; i++) {
                Target.pc(x);
            }
            check.due("each was sent twice in round " + round, x.count(1) - sent, 20);
            check.due("none waits after round " + round, x.count(4), 0);
        }
    }
}
