/** Promise 10. */
public final class OperationTest {
    public static void main(String[] args) {
        Check check = new Check();
        atMostTwenty(check);
        wrongOnes(check);
        valuesThatDontMatter(check);
        check.end();
    }

    private static void atMostTwenty(Check check) {
        LineDebugger x = new LineDebugger();
        for (int i = 1; i <= 20; i++) {
            check.due("operation " + i, x.operation(i % 11, i % 8), i);
            check.due("count " + i, x.count(9), i);
        }
        String before = View.of(x);
        check.dueThrows("a 21st", Check.ISE, () -> x.operation(0, 0));
        check.dueThrows("a wrong 21st", Check.IAE, () -> x.operation(11, 0));
        check.dueThrows("a 21st with no register", Check.IAE, () -> x.operation(1, 8));
        check.due("it kept the state", View.of(x), before);
    }

    private static void wrongOnes(Check check) {
        LineDebugger x = new LineDebugger();
        x.operation(0, 5);
        for (int operation : new int[] {-1, 11, Integer.MIN_VALUE, Integer.MAX_VALUE}) {
            check.dueThrows("operation " + operation, Check.IAE, () -> x.operation(operation, 0));
        }
        for (int register : new int[] {-1, 8, Integer.MIN_VALUE, Integer.MAX_VALUE}) {
            check.dueThrows("register " + register, Check.IAE, () -> x.operation(1, register));
        }
        check.due("one", x.count(9), 1);
        x.unwind();
        check.due("still worked out", x.evaluate(0), 5);
    }

    private static void valuesThatDontMatter(Check check) {
        LineDebugger x = new LineDebugger();
        x.operation(0, Integer.MIN_VALUE);
        x.operation(7, -1);
        x.operation(3, 99);
        x.operation(1, 7);
        x.operation(4, Integer.MAX_VALUE);
        Target.setRegister(x, 7, 1);
        x.unwind();
        check.due("worked out", x.evaluate(0), -1);
    }
}
