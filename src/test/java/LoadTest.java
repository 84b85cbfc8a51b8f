/** Promise 2. */
public final class LoadTest {
    public static void main(String[] args) {
        Check check = new Check();
        everyAddress(check);
        noSuchAddress(check);
        notOverTheLine(check);
        overABreakpoint(check);
        check.end();
    }

    private static void everyAddress(Check check) {
        check.sentence("The word that lies at an address becomes word");
        LineDebugger x = new LineDebugger();
        for (int address = 0; address < 64; address++) {
            check.due("load " + address, x.load(address, 1000 - address), true);
        }
        for (int address = 0; address < 64; address++) {
            check.due("word " + address, Target.word(x, address), 1000 - address);
        }
        for (int word : new int[] {Target.LOWEST, -1, 0, Target.HIGHEST}) {
            x.load(5, word);
            check.due("any word", Target.word(x, 5), word);
        }
    }

    private static void noSuchAddress(Check check) {
        check.sentence("False when there is no such address.");
        LineDebugger x = new LineDebugger();
        String before = View.ofMachine(x);
        for (int wrong : new int[] {-1, 64, 65, 256, 319, -64, Target.LOWEST, Target.HIGHEST}) {
            check.due("load " + wrong, x.load(wrong, 7), false);
        }
        check.due("nothing changed", View.ofMachine(x), before);
    }

    private static void notOverTheLine(Check check) {
        check.sentence("not over the line");
        LineDebugger x = new LineDebugger();
        Target.pc(x);
        Target.tellFaults(x, 1, 0, 9);
        String before = View.of(x);
        x.load(0, 1);
        x.load(-1, 1);
        check.due("nothing was sent and no fault met", View.of(x), before);
    }

    private static void overABreakpoint(Check check) {
        check.sentence("(a breakpoint's 15, too; what was there before that stays kept)");
        LineDebugger x = new LineDebugger();
        int kept = Target.set(0, 11);
        x.load(1, kept);
        Target.putBreakpoint(x, 1);
        check.due("load over it", x.load(1, Target.set(0, 22)), true);
        check.due("what was there stays kept", Target.word(x, 1), kept);
        check.due("the breakpoint stays", x.count(6), 1);
        x.load(0, Target.jump(1));
        check.due("a run does the loaded word and halts", Target.run(x, 9), 3);
        check.due("it was done", Target.register(x, 0), 22);
        x.load(1, Target.BREAK);
        Target.setPc(x, 0);
        check.due("a 15 loaded again stops a run", Target.run(x, 9), 2);
        Target.takeBreakpoint(x, 1);
        check.due("the kept word comes back", Target.word(x, 1), kept);
    }
}
