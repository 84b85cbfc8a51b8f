/** Promise 2. */
public final class LoadTest {
    public static void main(String[] args) {
        Check check = new Check();
        everyAddressAndNoOther(check);
        staysOffTheLine(check);
        goesOverABreakpoint(check);
        check.end();
    }

    private static void everyAddressAndNoOther(Check check) {
        LineDebugger x = new LineDebugger();
        for (int address = 0; address < 64; address++) {
            check.due("load " + address, x.load(address, 1000 - address), true);
        }
        for (int wrong : new int[] {-1, 64, 256, Integer.MIN_VALUE, Integer.MAX_VALUE}) {
            check.due("load " + wrong, x.load(wrong, 7), false);
        }
        for (int address = 0; address < 64; address++) {
            check.due("word " + address, Target.word(x, address), 1000 - address);
        }
        x.load(5, Integer.MIN_VALUE);
        check.due("the lowest word", Target.word(x, 5), Integer.MIN_VALUE);
        x.load(5, -1);
        check.due("all bits", Target.word(x, 5), -1);
    }

    private static void staysOffTheLine(Check check) {
        LineDebugger x = new LineDebugger();
        Target.tellFaults(x, 1, 0, 9);
        String before = View.of(x);
        x.load(0, 1);
        x.load(-1, 1);
        check.due("nothing was sent and no fault met", View.of(x), before);
    }

    private static void goesOverABreakpoint(Check check) {
        LineDebugger x = new LineDebugger();
        int kept = Target.instruction(1, 0, 0, 0, 11);
        x.load(1, kept);
        Target.putBreakpoint(x, 1);
        int over = Target.instruction(1, 0, 0, 0, 22);
        check.due("load over it", x.load(1, over), true);
        check.due("the word that was there stays kept", Target.word(x, 1), kept);
        check.due("the breakpoint stays", x.count(6), 1);
        x.load(0, Target.instruction(9, 0, 0, 0, 1));
        check.due("a run does the loaded word and halts", Target.run(x, 9), 3);
        check.due("it was done", Target.register(x, 0), 22);
        Target.takeBreakpoint(x, 1);
        check.due("the kept word comes back", Target.word(x, 1), kept);
    }
}
