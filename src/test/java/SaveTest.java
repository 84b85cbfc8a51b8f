/** Promise 7, and what saved registers become (Terms: RULES). */
public final class SaveTest {
    public static void main(String[] args) {
        Check check = new Check();
        noRule(check);
        registerNot0To5Or7(check);
        slotNot0To15(check);
        registersAndSlots(check);
        inPlaceOfWhatItSaid(check);
        ofTheLatestRule(check);
        check.end();
    }

    private static Check.Call save(LineDebugger x, int register, int slot) {
        return () -> {
            x.save(register, slot);
            return 0;
        };
    }

    /** One rule, for PC 0; the words from 20 on are 500 and on, where the stack is. */
    private static LineDebugger withRule() {
        LineDebugger x = new LineDebugger();
        for (int k = 0; k <= 15; k++) {
            x.load(20 + k, 500 + k);
        }
        Target.setRegister(x, 6, 20);
        Target.setRegister(x, 7, 50);
        x.rule(0, 0, 1, -1);
        return x;
    }

    private static int wordsAskedFor(LineDebugger x) {
        int requests = x.count(0);
        x.unwind();
        return x.count(0) - requests - 9;
    }

    private static void noRule(Check check) {
        check.sentence("Throws IllegalStateException when there is no rule");
        LineDebugger x = new LineDebugger();
        check.dueThrows("right", Check.ISE, save(x, 0, 0));
        check.dueThrows("a wrong register", Check.ISE, save(x, 6, 0));
        check.dueThrows("a wrong slot", Check.ISE, save(x, 0, 16));
        check.dueThrows("a refused rule", Check.IAE, () -> x.rule(1, 0, 0, 0));
        check.dueThrows("is no rule", Check.ISE, save(x, 0, 0));
        x.rule(0, 0, 0, -1);
        Target.setRegister(x, 7, 9);
        check.due("nothing was kept for the first", wordsAskedFor(x), 0);
    }

    private static void registerNot0To5Or7(Check check) {
        check.sentence("IllegalArgumentException when register is not 0 .. 5 or 7");
        LineDebugger x = withRule();
        for (int register : new int[] {-1, 6, 8, 9, 256, Target.LOWEST, Target.HIGHEST}) {
            check.dueThrows("register " + register, Check.IAE, save(x, register, 0));
        }
        check.due("nothing is saved", wordsAskedFor(x), 0);
        check.due("return address", x.frame(1, 8), 50);
        check.due("stack", x.frame(1, 6), 21);
    }

    private static void slotNot0To15(Check check) {
        check.sentence("or slot not 0 .. 15");
        LineDebugger x = withRule();
        for (int slot : new int[] {-1, -2, 16, 256, Target.LOWEST, Target.HIGHEST}) {
            check.dueThrows("slot " + slot, Check.IAE, save(x, 0, slot));
        }
        check.due("nothing is saved", wordsAskedFor(x), 0);
        x.save(0, 3);
        check.dueThrows("slot -1 takes no save back", Check.IAE, save(x, 0, -1));
        check.due("one is saved", wordsAskedFor(x), 1);
        check.due("as it was", x.frame(1, 0), 503);
    }

    private static void registersAndSlots(Check check) {
        check.sentence("A rule can have SAVES: register r (0 .. 5 or 7) is at a slot.");
        for (int register : new int[] {0, 1, 2, 3, 4, 5, 7}) {
            for (int slot : new int[] {0, 1, 14, 15}) {
                LineDebugger x = withRule();
                x.save(register, slot);
                check.due("words asked for", wordsAskedFor(x), 1);
                for (int r = 0; r < 8; r++) {
                    int here = r == 6 ? 21 : x.frame(0, r);
                    check.due("register " + r, x.frame(1, r), r == register ? 500 + slot : here);
                }
            }
        }
        LineDebugger x = withRule();
        for (int register : new int[] {7, 5, 3, 1, 0, 2, 4}) {
            x.save(register, 2 * register);
        }
        check.due("all of them", wordsAskedFor(x), 7);
        for (int register : new int[] {0, 1, 2, 3, 4, 5, 7}) {
            check.due("register " + register, x.frame(1, register), 500 + 2 * register);
        }
        check.due("the return address is this frame's link", x.frame(1, 8), 50);
    }

    private static void inPlaceOfWhatItSaid(Check check) {
        check.sentence("The latest rule saves a register (in place of what it said of it).");
        LineDebugger x = withRule();
        x.save(3, 0);
        x.save(4, 1);
        x.save(3, 2);
        check.due("two words are asked for", wordsAskedFor(x), 2);
        check.due("the later slot", x.frame(1, 3), 502);
        check.due("another register's stays", x.frame(1, 4), 501);
    }

    private static void ofTheLatestRule(Check check) {
        check.sentence("The latest rule saves a register");
        LineDebugger x = withRule();
        Target.setRegister(x, 7, 1);
        x.save(2, 1);
        x.rule(1, 1, 0, 2);
        x.save(4, 0);
        check.due("frames", x.unwind(), 3);
        check.due("the first rule saves 2", x.frame(1, 2), 501);
        check.due("and not 4", x.frame(1, 4), 0);
        check.due("the second saves 4", x.frame(2, 4), 501);
        check.due("and has 2 from below", x.frame(2, 2), 501);
        check.due("pc", x.frame(2, 8), 503);
        for (int i = 3; i <= 8; i++) {
            x.rule(2, 2, 0, -1);
        }
        check.dueThrows("a ninth", Check.ISE, () -> x.rule(2, 2, 0, -1));
        x.save(5, 0);
        Target.setPc(x, 2);
        check.due("the eighth's save is not the third's", wordsAskedFor(x), 2);
        check.due("which the frame was unwound by", x.frame(1, 5), 0);
    }
}
