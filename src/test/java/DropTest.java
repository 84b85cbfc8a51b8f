/** Promise 11. */
public final class DropTest {
    public static void main(String[] args) {
        Check check = new Check();
        LineDebugger x = new LineDebugger();
        check.due("none", x.drop(), 0);
        x.unwind();
        Target.giveOperations(x, new int[] {0, 3}, new int[] {0, 4}, new int[] {5});
        check.due("three", x.evaluate(0), 12);
        check.due("working it out keeps them", x.count(9), 3);
        check.due("it had", x.drop(), 3);
        check.due("it has", x.count(9), 0);
        check.due("again", x.drop(), 0);
        check.dueThrows("nothing to work out", Check.ISE, () -> x.evaluate(0));
        check.due("the first of the next", x.operation(0, 8), 1);
        check.due("alone", x.evaluate(0), 8);
        x.drop();
        for (int i = 1; i <= 20; i++) {
            x.operation(0, i);
        }
        check.due("twenty", x.drop(), 20);
        check.due("room again", x.operation(0, 0), 1);
        check.end();
    }
}
