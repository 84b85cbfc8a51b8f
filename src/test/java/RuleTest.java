/** Promise 6. */
public final class RuleTest {
    private static final int LOWEST = Integer.MIN_VALUE;
    private static final int HIGHEST = Integer.MAX_VALUE;

    public static void main(String[] args) {
        Check check = new Check();
        atMostEight(check);
        wrongRules(check);
        edgesOfWhatARuleHas(check);
        theFirstThatHasCounts(check);
        check.end();
    }

    private static void atMostEight(Check check) {
        LineDebugger x = new LineDebugger();
        check.due("from is to", x.rule(5, 5, 0, -1), 1);
        check.due("all PCs", x.rule(LOWEST, HIGHEST, 15, 15), 2);
        for (int i = 3; i <= 8; i++) {
            check.due("rule " + i, x.rule(-9, -8, i, 0), i);
        }
        String before = View.of(x);
        check.dueThrows("a ninth", Check.ISE, () -> x.rule(0, 0, 0, 0));
        check.dueThrows("a wrong ninth", Check.IAE, () -> x.rule(1, 0, 0, 0));
        check.due("it kept the state", View.of(x), before);
    }

    private static void wrongRules(Check check) {
        LineDebugger x = new LineDebugger();
        check.dueThrows("from above to", Check.IAE, () -> x.rule(1, 0, 0, 0));
        check.dueThrows("far above", Check.IAE, () -> x.rule(HIGHEST, LOWEST, 0, 0));
        check.dueThrows("size -1", Check.IAE, () -> x.rule(0, 0, -1, 0));
        check.dueThrows("size 16", Check.IAE, () -> x.rule(0, 0, 16, 0));
        check.dueThrows("slot -2", Check.IAE, () -> x.rule(0, 0, 0, -2));
        check.dueThrows("slot 16", Check.IAE, () -> x.rule(0, 0, 0, 16));
        check.dueThrows("lowest slot", Check.IAE, () -> x.rule(0, 0, 0, LOWEST));
        check.dueThrows("no rule to save with", Check.ISE, () -> { x.save(0, 0); return 0; });
        check.due("none has it", x.unwind(), 1);
        check.due("the first", x.rule(0, 0, 0, 0), 1);
    }

    /** How many frames there are when PC is pc, a rule has 10 .. 20, and link is outside of it. */
    private static int framesAt(int pc) {
        LineDebugger x = new LineDebugger();
        x.rule(10, 20, 0, -1);
        Target.setRegister(x, 7, 30);
        Target.setPc(x, pc);
        return x.unwind();
    }

    private static void edgesOfWhatARuleHas(Check check) {
        check.due("below", framesAt(9), 1);
        check.due("from", framesAt(10), 2);
        check.due("to", framesAt(20), 2);
        check.due("above", framesAt(21), 1);
        check.due("lowest", framesAt(LOWEST), 1);
        check.due("highest", framesAt(HIGHEST), 1);
    }

    private static void theFirstThatHasCounts(Check check) {
        LineDebugger x = new LineDebugger();
        x.rule(0, 4, 1, -1);
        x.rule(5, 9, 2, -1);
        x.rule(0, 63, 3, -1);
        Target.setPc(x, 7);
        Target.setRegister(x, 7, 100);
        check.due("frames", x.unwind(), 2);
        check.due("by the second rule", x.frame(1, 6), 2);
        Target.setPc(x, 2);
        x.unwind();
        check.due("by the first rule", x.frame(1, 6), 1);
        Target.setPc(x, 10);
        x.unwind();
        check.due("by the third rule", x.frame(1, 6), 3);
    }
}
