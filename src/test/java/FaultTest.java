/** Promise 3. */
public final class FaultTest {
    public static void main(String[] args) {
        Check check = new Check();
        fortyWait(check);
        theyAreMetInTurn(check);
        theirPlacesAreUsedAgain(check);
        check.end();
    }

    private static void fortyWait(Check check) {
        LineDebugger x = new LineDebugger();
        check.dueThrows("below 0", Check.IAE, () -> x.fault(-1));
        check.dueThrows("lowest", Check.IAE, () -> x.fault(Integer.MIN_VALUE));
        check.due("none waits", x.count(4), 0);
        for (int i = 1; i <= 40; i++) {
            check.due("fault " + i, x.fault(i == 40 ? Integer.MAX_VALUE : 0), i);
        }
        String before = View.of(x);
        check.dueThrows("a 41st", Check.ISE, () -> x.fault(0));
        check.dueThrows("a 41st below 0", Check.IAE, () -> x.fault(-1));
        check.due("it kept the state", View.of(x), before);
        Target.pc(x);
        check.due("two were met", x.count(4), 38);
        check.due("room again", x.fault(3), 39);
    }

    private static void theyAreMetInTurn(Check check) {
        LineDebugger x = new LineDebugger();
        Target.tellFaults(x, 0, 0, 1);
        Target.pc(x);
        check.due("the first request met none", x.count(1), 1);
        Target.pc(x);
        check.due("the second was lost once", x.count(1), 3);
        check.due("none waits", x.count(4), 0);
        Target.pc(x);
        check.due("without a fault told it goes through", x.count(1), 4);
    }

    private static void theirPlacesAreUsedAgain(Check check) {
        LineDebugger x = new LineDebugger();
        for (int round = 0; round < 6; round++) {
            for (int i = 0; i < 30; i++) {
                x.fault(i % 3 == 0 ? 1 : 0);
            }
            int sent = x.count(1);
            for (int i = 0; i < 10; i++) {
                Target.pc(x);
            }
            check.due("each was sent twice in round " + round, x.count(1) - sent, 20);
            check.due("none waits after round " + round, x.count(4), 0);
        }
    }
}
