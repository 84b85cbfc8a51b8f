/** Promise 6, and what a rule has (Terms: RULES). */
public final class RuleTest {
    private static final int LOWEST = Target.LOWEST;
    private static final int HIGHEST = Target.HIGHEST;

    public static void main(String[] args) {
        Check check = new Check();
        howManyThereAre(check);
        atMostEight(check);
        fromAboveTo(check);
        sizeNotZeroTo15(check);
        slotNotMinusOneTo15(check);
        eightAreThere(check);
        pcsFromTo(check);
        sizes(check);
        slotsOfTheReturnAddress(check);
        theFirstThatHas(check);
        check.end();
    }

    private static void howManyThereAre(Check check) {
        check.sentence("One more rule: how many there are.");
        LineDebugger x = new LineDebugger();
        for (int i = 1; i <= 8; i++) {
            check.due("rule " + i, x.rule(5, 5, i, i), i);
        }
    }

    private static void atMostEight(Check check) {
        check.sentence("RULES say for PCs how frames are unwound, at most eight");
        LineDebugger x = new LineDebugger();
        for (int i = 0; i < 8; i++) {
            x.rule(i, i, i + 1, -1);
        }
        Target.setRegister(x, 7, 100);
        for (int pc = 0; pc < 8; pc++) {
            Target.setPc(x, pc);
            check.due("frames at " + pc, x.unwind(), 2);
            check.due("by a rule of its own", x.frame(1, 6), pc + 1);
        }
        check.dueThrows("a ninth", Check.ISE, () -> x.rule(8, 8, 9, -1));
        Target.setPc(x, 8);
        check.due("no rule has 8", x.unwind(), 1);
    }

    private static void wrong(Check check, int from, int to, int size, int slot) {
        LineDebugger x = new LineDebugger();
        String what = "rule " + from + ", " + to + ", " + size + ", " + slot;
        check.dueThrows(what, Check.IAE, () -> x.rule(from, to, size, slot));
        check.dueThrows("there is none", Check.ISE, () -> { x.save(0, 0); return 0; });
        check.due("no rule has PC 0", x.unwind(), 1);
        check.due("the first", x.rule(0, 0, 0, 0), 1);
    }

    private static void fromAboveTo(Check check) {
        check.sentence("Throws IllegalArgumentException when from is above to");
        wrong(check, 1, 0, 0, 0);
        wrong(check, 0, -1, 0, 0);
        wrong(check, HIGHEST, LOWEST, 0, 0);
        wrong(check, 0, LOWEST, 0, 0);
        LineDebugger x = new LineDebugger();
        check.due("from is to", x.rule(0, 0, 0, 0), 1);
        check.due("from is below to", x.rule(-1, 0, 0, 0), 2);
        check.due("the lowest and the highest", x.rule(LOWEST, HIGHEST, 0, 0), 3);
    }

    private static void sizeNotZeroTo15(Check check) {
        check.sentence("size not 0 .. 15");
        for (int size : new int[] {-1, 16, LOWEST, HIGHEST}) {
            wrong(check, 0, 0, size, 0);
        }
        LineDebugger x = new LineDebugger();
        check.due("size 0", x.rule(0, 0, 0, 0), 1);
        check.due("size 15", x.rule(0, 0, 15, 0), 2);
    }

    private static void slotNotMinusOneTo15(Check check) {
        check.sentence("or slot not -1 .. 15");
        for (int slot : new int[] {-2, 16, LOWEST, HIGHEST}) {
            wrong(check, 0, 0, 0, slot);
        }
        LineDebugger x = new LineDebugger();
        check.due("slot -1", x.rule(0, 0, 0, -1), 1);
        check.due("slot 0", x.rule(0, 0, 0, 0), 2);
        check.due("slot 15", x.rule(0, 0, 0, 15), 3);
    }

    private static void eightAreThere(Check check) {
        check.sentence("IllegalStateException when there are eight.");
        LineDebugger x = new LineDebugger();
        for (int i = 1; i <= 8; i++) {
            check.due("rule " + i, x.rule(-9, -8, 3, -1), i);
        }
        String before = View.of(x);
        check.dueThrows("a ninth", Check.ISE, () -> x.rule(0, 0, 0, 0));
        check.dueThrows("a wrong ninth", Check.IAE, () -> x.rule(1, 0, 0, 0));
        check.due("it kept the state", View.of(x), before);
        check.due("no rule has PC 0", x.unwind(), 1);
        Target.setPc(x, -8);
        check.due("the eight are as before", x.unwind(), 2);
        check.due("stack", x.frame(1, 6), 3);
    }

    /** How many frames there are when PC is pc, a rule has from .. to, and link is 30. */
    private static int framesAt(int from, int to, int pc) {
        LineDebugger x = new LineDebugger();
        x.rule(from, to, 0, -1);
        Target.setRegister(x, 7, 30);
        Target.setPc(x, pc);
        return x.unwind();
    }

    private static void pcsFromTo(Check check) {
        check.sentence("from, to (PCs from .. to)");
        check.due("below", framesAt(10, 20, 9), 1);
        check.due("from", framesAt(10, 20, 10), 2);
        check.due("to", framesAt(10, 20, 20), 2);
        check.due("above", framesAt(10, 20, 21), 1);
        check.due("lowest", framesAt(10, 20, LOWEST), 1);
        check.due("highest", framesAt(10, 20, HIGHEST), 1);
        check.due("one PC alone", framesAt(10, 10, 10), 2);
        check.due("beside it", framesAt(10, 10, 11), 1);
        check.due("below 0", framesAt(-5, -3, -4), 2);
        check.due("the lowest of all", framesAt(LOWEST, 29, LOWEST), 2);
        check.due("the highest of all", framesAt(31, HIGHEST, HIGHEST), 2);
    }

    private static void sizes(Check check) {
        check.sentence("a SIZE 0 .. 15");
        for (int size = 0; size <= 15; size++) {
            LineDebugger x = new LineDebugger();
            x.rule(0, 0, size, -1);
            Target.setRegister(x, 6, 100);
            Target.setRegister(x, 7, 30);
            x.unwind();
            check.due("size " + size, x.frame(1, 6), 100 + size);
        }
    }

    private static void slotsOfTheReturnAddress(Check check) {
        check.sentence("where the return address is: slot 0 .. 15, or -1: in register 7");
        for (int slot = -1; slot <= 15; slot++) {
            LineDebugger x = new LineDebugger();
            for (int k = -1; k <= 15; k++) {
                x.load(40 + k, 500 + k);
            }
            x.rule(0, 0, 1, slot);
            Target.setRegister(x, 6, 40);
            Target.setRegister(x, 7, 30);
            check.due("frames", x.unwind(), 2);
            check.due("slot " + slot, x.frame(1, 8), slot == -1 ? 30 : 500 + slot);
            check.due("link stays", x.frame(1, 7), 30);
        }
    }

    private static void theFirstThatHas(Check check) {
        check.sentence("If a rule has the PC of a frame (the first one that has)");
        LineDebugger x = new LineDebugger();
        x.rule(0, 4, 1, -1);
        x.rule(5, 9, 2, -1);
        x.rule(0, 63, 3, -1);
        x.rule(10, 10, 4, -1);
        Target.setRegister(x, 7, 100);
        int[][] pcAndSize = {{0, 1}, {4, 1}, {5, 2}, {9, 2}, {10, 3}, {63, 3}};
        for (int[] each : pcAndSize) {
            Target.setPc(x, each[0]);
            check.due("frames at " + each[0], x.unwind(), 2);
            check.due("the rule's size at " + each[0], x.frame(1, 6), each[1]);
        }
    }
}
