/** Promise 7. */
public final class SaveTest {
    public static void main(String[] args) {
        Check check = new Check();
        wrongSaves(check);
        everyRegister(check);
        inPlaceOfAnEarlierOne(check);
        ofTheLatestRuleAlone(check);
        check.end();
    }

    private static Check.Call save(LineDebugger x, int register, int slot) {
        return () -> {
            x.save(register, slot);
            return 0;
        };
    }

    private static void wrongSaves(Check check) {
        LineDebugger x = new LineDebugger();
        check.dueThrows("no rule", Check.ISE, save(x, 0, 0));
        check.dueThrows("no rule, and wrong", Check.ISE, save(x, 6, 16));
        x.rule(0, 0, 0, -1);
        Target.setRegister(x, 7, 9);
        for (int register : new int[] {-1, 6, 8, Integer.MIN_VALUE, Integer.MAX_VALUE}) {
            check.dueThrows("register " + register, Check.IAE, save(x, register, 0));
        }
        for (int slot : new int[] {-1, 16, Integer.MIN_VALUE, Integer.MAX_VALUE}) {
            check.dueThrows("slot " + slot, Check.IAE, save(x, 0, slot));
        }
        int requests = x.count(0);
        x.unwind();
        check.due("nothing is saved", x.count(0) - requests, 9);
    }

    private static void everyRegister(Check check) {
        LineDebugger x = new LineDebugger();
        x.rule(0, 0, 1, -1);
        for (int register = 0; register < 8; register++) {
            Target.setRegister(x, register, 40);
            if (register != 6) {
                x.save(register, register * 2);
                x.load(40 + register * 2, 500 + register);
            }
        }
        x.save(5, 15);
        x.load(55, 505);
        check.due("frames", x.unwind(), 2);
        for (int register = 0; register < 8; register++) {
            check.due("register " + register, x.frame(1, register), register == 6 ? 41 : 500 + register);
            check.due("frame 0 has its own", x.frame(0, register), 40);
        }
        check.due("the return address is this frame's link", x.frame(1, 8), 40);
    }

    private static void inPlaceOfAnEarlierOne(Check check) {
        LineDebugger x = new LineDebugger();
        Target.loadFrom(x, 20, 1, 2, 3);
        Target.setRegister(x, 6, 20);
        Target.setRegister(x, 7, 50);
        x.rule(0, 0, 0, -1);
        x.save(3, 0);
        x.save(3, 2);
        int requests = x.count(0);
        x.unwind();
        check.due("the later slot", x.frame(1, 3), 3);
        check.due("one word is asked for", x.count(0) - requests, 10);
    }

    private static void ofTheLatestRuleAlone(Check check) {
        LineDebugger x = new LineDebugger();
        Target.loadFrom(x, 20, 1, 2, 3);
        Target.setRegister(x, 6, 20);
        Target.setRegister(x, 7, 1);
        x.rule(0, 0, 0, -1);
        x.save(2, 1);
        x.rule(1, 1, 0, 2);
        x.save(4, 0);
        check.due("frames", x.unwind(), 3);
        check.due("the first rule saves 2", x.frame(1, 2), 2);
        check.due("and not 4", x.frame(1, 4), 0);
        check.due("the second saves 4", x.frame(2, 4), 1);
        check.due("and has 2 from below", x.frame(2, 2), 2);
        check.due("pc", x.frame(2, 8), 3);
    }
}
