/** Promise 11. */
public final class DropTest {
    public static void main(String[] args) {
        Check check = new Check();
        hasNoneThen(check);
        howManyItHad(check);
        noneOrTwenty(check);
        check.end();
    }

    private static void hasNoneThen(Check check) {
        check.sentence("The expression has no operations then.");
        LineDebugger x = new LineDebugger();
        x.unwind();
        Target.giveOperations(x, new int[] {0, 3}, new int[] {0, 4}, new int[] {5});
        String frames = View.ofFrames(x);
        x.drop();
        check.due("it has", x.count(9), 0);
        check.dueThrows("nothing to work out", Check.ISE, () -> x.evaluate(0));
        check.due("the first of the next", x.operation(0, 8), 1);
        check.due("alone", x.evaluate(0), 8);
        check.due("the frames stay", View.ofFrames(x), frames);
    }

    private static void howManyItHad(Check check) {
        check.sentence("How many it had.");
        LineDebugger x = new LineDebugger();
        x.unwind();
        Target.giveOperations(x, new int[] {0, 3}, new int[] {0, 4}, new int[] {5});
        check.due("worked out", x.evaluate(0), 12);
        check.due("three, worked out or not", x.drop(), 3);
    }

    private static void noneOrTwenty(Check check) {
        check.sentence("How many it had.");
        LineDebugger x = new LineDebugger();
        check.due("none", x.drop(), 0);
        for (int i = 1; i <= 20; i++) {
            x.operation(0, i);
        }
        check.due("twenty", x.drop(), 20);
        check.due("none again", x.drop(), 0);
        for (int i = 1; i <= 20; i++) {
            check.due("room for twenty more", x.operation(0, i), i);
        }
    }
}
