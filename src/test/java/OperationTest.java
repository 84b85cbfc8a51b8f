/** Promise 10. */
public final class OperationTest {
    public static void main(String[] args) {
        Check check = new Check();
        howManyItHas(check);
        noSuchOperation(check);
        noSuchRegister(check);
        twentyAreThere(check);
        valuesThatDontMatter(check);
        check.end();
    }

    private static void howManyItHas(Check check) {
        check.sentence("One more operation of the expression: how many it has.");
        LineDebugger x = new LineDebugger();
        for (int operation = 0; operation <= 10; operation++) {
            check.due("operation " + operation, x.operation(operation, 0), operation + 1);
            check.due("count", x.count(9), operation + 1);
        }
    }

    private static LineDebugger withFive() {
        LineDebugger x = new LineDebugger();
        x.unwind();
        x.operation(0, 5);
        return x;
    }

    private static void stillFive(Check check, LineDebugger x) {
        check.due("one", x.count(9), 1);
        check.due("worked out as before", x.evaluate(0), 5);
        check.due("the next is the second", x.operation(0, 6), 2);
    }

    private static void noSuchOperation(Check check) {
        check.sentence("Throws IllegalArgumentException when there is no such operation");
        LineDebugger x = withFive();
        for (int operation : new int[] {-1, 11, 12, 256, Target.LOWEST, Target.HIGHEST}) {
            check.dueThrows("operation " + operation, Check.IAE, () -> x.operation(operation, 0));
        }
        stillFive(check, x);
    }

    private static void noSuchRegister(Check check) {
        check.sentence("or (REGISTER) no register v");
        LineDebugger x = withFive();
        for (int v : new int[] {-1, 8, 9, 256, Target.LOWEST, Target.HIGHEST}) {
            check.dueThrows("register " + v, Check.IAE, () -> x.operation(1, v));
        }
        stillFive(check, x);
        check.due("register 0", x.operation(1, 0), 3);
        check.due("register 7", x.operation(1, 7), 4);
    }

    private static void twentyAreThere(Check check) {
        check.sentence("IllegalStateException when there are 20.");
        LineDebugger x = new LineDebugger();
        x.unwind();
        x.operation(0, 1);
        for (int i = 2; i <= 20; i++) {
            check.due("operation " + i, x.operation(i % 2 == 0 ? 0 : 3, i), i);
        }
        String before = View.of(x);
        check.dueThrows("a 21st", Check.ISE, () -> x.operation(9, 0));
        check.dueThrows("a wrong 21st", Check.IAE, () -> x.operation(11, 0));
        check.dueThrows("a 21st with no register", Check.IAE, () -> x.operation(1, 8));
        check.due("it kept the state", View.of(x), before);
        check.due("the twenty are as before", x.evaluate(0), 20);
    }

    private static void valuesThatDontMatter(Check check) {
        check.sentence("0 CONSTANT v; 1 REGISTER v of a frame (0 .. 7)");
        LineDebugger x = new LineDebugger();
        x.operation(0, Target.LOWEST);
        x.operation(7, -1);
        x.operation(3, 99);
        x.operation(1, 7);
        x.operation(4, Target.HIGHEST);
        Target.setRegister(x, 7, 1);
        x.unwind();
        check.due("v matters to these two alone", x.evaluate(0), -1);
    }
}
