/** The machine's instructions and stops (Terms: THE MACHINE), by steps and runs of promise 4. */
public final class MachineTest {
    private static final int LOWEST = Integer.MIN_VALUE;

    public static void main(String[] args) {
        Check check = new Check();
        calculations(check);
        loadsAndStores(check);
        jumps(check);
        stopsThatChangeNothing(check);
        pcOutside(check);
        fieldsOfAnInstruction(check);
        runs(check);
        check.end();
    }

    /** One step of the instruction at 5, with register 1 = b and register 2 = c. */
    private static LineDebugger machineAt5(int instruction, int b, int c) {
        LineDebugger x = new LineDebugger();
        x.load(5, instruction);
        Target.setRegister(x, 1, b);
        Target.setRegister(x, 2, c);
        Target.setRegister(x, 3, 12345);
        Target.setPc(x, 5);
        return x;
    }

    private static void calculate(Check check, int op, int b, int c, int n, int want) {
        String what = "op " + op + " of " + b + ", " + c + ", " + n;
        LineDebugger x = machineAt5(Target.instruction(op, 3, 1, 2, n), b, c);
        check.due(what + " steps", Target.step(x), 1);
        check.due(what, Target.register(x, 3), want);
        check.due(what + " pc", Target.pc(x), 6);
        check.due(what + " b", Target.register(x, 1), b);
        check.due(what + " c", Target.register(x, 2), c);
        check.due(what + " steps made", x.count(5), 1);
    }

    private static void calculations(Check check) {
        calculate(check, 1, 7, 8, 9, 9);
        calculate(check, 1, 7, 8, -32768, -32768);
        calculate(check, 1, 7, 8, 32767, 32767);
        calculate(check, 2, 7, 8, -9, -2);
        calculate(check, 2, Integer.MAX_VALUE, 0, 1, LOWEST);
        calculate(check, 3, 7, 8, 9, 15);
        calculate(check, 3, LOWEST, -1, 0, Integer.MAX_VALUE);
        calculate(check, 4, 7, 8, 9, -1);
        calculate(check, 4, LOWEST, 1, 0, Integer.MAX_VALUE);
        calculate(check, 5, 7, -8, 9, -56);
        calculate(check, 5, 65536, 65537, 0, 65536);
        calculate(check, 6, 7, 2, 9, 3);
        calculate(check, 6, -7, 2, 9, -3);
        calculate(check, 6, 7, -2, 9, -3);
        calculate(check, 6, LOWEST, -1, 0, LOWEST);
        calculate(check, 6, 0, 5, 0, 0);
    }

    private static void loadsAndStores(Check check) {
        LineDebugger x = machineAt5(Target.instruction(7, 3, 1, 0, -4), 67, 0);
        x.load(63, 777);
        check.due("load from 63", Target.step(x), 1);
        check.due("loaded", Target.register(x, 3), 777);
        check.due("pc", x.count(8), 6);

        LineDebugger y = machineAt5(Target.instruction(8, 3, 1, 0, 4), -4, 0);
        check.due("store to 0", Target.step(y), 1);
        check.due("stored", Target.word(y, 0), 12345);
        check.due("pc", y.count(8), 6);
    }

    private static void jump(Check check, int op, int ra, int n, int want) {
        String what = "op " + op + " with " + ra + " to " + n;
        LineDebugger x = machineAt5(Target.instruction(op, 1, 0, 0, n), ra, 0);
        Target.setRegister(x, 7, 99);
        check.due(what + " steps", Target.step(x), 1);
        check.due(what + " pc", Target.pc(x), want);
        check.due(what + " link", Target.register(x, 7), op == 11 ? 6 : 99);
        check.due(what + " ra", Target.register(x, 1), ra);
    }

    private static void jumps(Check check) {
        jump(check, 9, 1, 40, 40);
        jump(check, 9, 1, -1, -1);
        jump(check, 10, 0, 40, 40);
        jump(check, 10, 1, 40, 6);
        jump(check, 10, -1, 40, 6);
        jump(check, 11, 1, 40, 40);
        jump(check, 12, 50, 40, 50);
        jump(check, 12, LOWEST, 40, LOWEST);
        jump(check, 13, -1, 40, 40);
        jump(check, 13, LOWEST, 40, 40);
        jump(check, 13, 0, 40, 6);
        jump(check, 13, 1, 40, 6);
        LineDebugger x = machineAt5(Target.instruction(12, 7, 0, 0, 0), 0, 0);
        Target.setRegister(x, 7, 30);
        Target.step(x);
        check.due("back by the link", x.count(8), 30);
    }

    private static void stop(Check check, int instruction, int b, int c, int want) {
        String what = "instruction " + Integer.toHexString(instruction) + " of " + b + ", " + c;
        LineDebugger x = machineAt5(instruction, b, c);
        check.due(what + " by a step", Target.step(x), want);
        check.due(what + " by a run", Target.run(x, 10), want);
        check.due(what + " pc", Target.pc(x), 5);
        check.due(what + " steps", x.count(5), 0);
        check.due(what + " register 3", Target.register(x, 3), 12345);
        check.due(what + " word", Target.word(x, 5), instruction);
        check.due(what + " link", Target.register(x, 7), 0);
    }

    private static void stopsThatChangeNothing(Check check) {
        stop(check, Target.HALT, 0, 0, 3);
        stop(check, 0xfffffff0, 0, 0, 3);
        stop(check, Target.BREAK, 0, 0, 2);
        stop(check, -1, 0, 0, 2);
        stop(check, 14, 0, 0, 4);
        stop(check, 0x7fff003e, 0, 0, 4);
        stop(check, Target.instruction(6, 3, 1, 2, 1), 9, 0, 4);
        for (int op = 7; op <= 8; op++) {
            stop(check, Target.instruction(op, 3, 1, 0, 1), 63, 0, 4);
            stop(check, Target.instruction(op, 3, 1, 0, -1), 0, 0, 4);
            stop(check, Target.instruction(op, 3, 1, 0, 1), Integer.MAX_VALUE, 0, 4);
        }
    }

    private static void pcOutside(Check check) {
        for (int pc : new int[] {-1, 64, LOWEST, Integer.MAX_VALUE}) {
            LineDebugger x = new LineDebugger();
            Target.setPc(x, pc);
            check.due("a step at " + pc, Target.step(x), 4);
            check.due("a run at " + pc, Target.run(x, 3), 4);
            check.due("no step of a run at " + pc, Target.run(x, 0), 5);
            check.due("pc", x.count(8), pc);
            check.due("steps", x.count(5), 0);
        }
        LineDebugger x = new LineDebugger();
        x.load(63, Target.instruction(1, 0, 0, 0, 1));
        Target.setPc(x, 63);
        check.due("off the end in the last step", Target.run(x, 1), 5);
        check.due("pc", x.count(8), 64);
        Target.setPc(x, 63);
        check.due("off the end with one to go", Target.run(x, 2), 4);
        check.due("pc", x.count(8), 64);
        check.due("steps", x.count(5), 2);
    }

    private static void fieldsOfAnInstruction(Check check) {
        LineDebugger x = machineAt5(Target.instruction(3, 3, 1, 2, 0) | 0xe000, 20, 3);
        Target.step(x);
        check.due("bits 13 to 15 don't matter", Target.register(x, 3), 23);
        LineDebugger y = new LineDebugger();
        for (int r = 0; r < 8; r++) {
            Target.setRegister(y, r, 1 << (3 * r));
        }
        y.load(0, Target.instruction(3, 7, 7, 6, 0));
        Target.step(y);
        check.due("the highest registers", Target.register(y, 7), (1 << 21) + (1 << 18));
        LineDebugger z = machineAt5(Target.instruction(5, 1, 1, 1, 0), 12, 0);
        Target.step(z);
        check.due("one register for all three", Target.register(z, 1), 144);
    }

    private static void runs(Check check) {
        LineDebugger x = new LineDebugger();
        Target.loadFrom(x, 0, Target.instruction(2, 0, 0, 0, 1), Target.instruction(9, 0, 0, 0, 0));
        check.due("0 steps", Target.run(x, 0), 5);
        check.due("pc", x.count(8), 0);
        check.due("200 steps", Target.run(x, 200), 5);
        check.due("steps", x.count(5), 200);
        check.due("register", Target.register(x, 0), 100);
        check.due("1 step", Target.run(x, 1), 5);
        check.due("pc", x.count(8), 1);

        LineDebugger y = new LineDebugger();
        Target.loadFrom(y, 0, Target.instruction(1, 0, 0, 0, 1), -1);
        check.due("the last step comes to a BREAK", Target.run(y, 1), 2);
        check.due("pc", y.count(8), 1);
        check.due("no step at a BREAK", Target.run(y, 0), 5);
        check.due("a run from a BREAK", Target.run(y, 5), 2);
        check.due("steps", y.count(5), 1);

        LineDebugger z = new LineDebugger();
        Target.loadFrom(z, 0, Target.instruction(1, 0, 0, 0, 1), 14);
        check.due("a fault behind", Target.run(z, 1), 5);
        check.due("a fault at once", Target.run(z, 1), 4);
        Target.setPc(z, 0);
        check.due("a fault in the second step", Target.run(z, 2), 4);
        check.due("pc", z.count(8), 1);
    }
}
