/** The machine's instructions and stops (Terms: THE MACHINE), by steps of promise 4. */
public final class MachineTest {
    private static final int LOWEST = Target.LOWEST;
    private static final int HIGHEST = Target.HIGHEST;

    public static void main(String[] args) {
        Check check = new Check();
        wordsAt0To63(check);
        registers0To7(check);
        fieldsOfAnInstruction(check);
        numbersWithTheirSign(check);
        bitsThatDontMatter(check);
        plainCalculations(check);
        sumsAndProductsWrap(check);
        quotients(check);
        loadsAndStores(check);
        jumps(check);
        jumpsIfZero(check);
        calls(check);
        jumpsToARegister(check);
        jumpsIfBelowZero(check);
        pcGrowsByOne(check);
        halts(check);
        breaks(check);
        pcIsNoAddress(check);
        op14(check);
        divisionsByZero(check);
        wordsAtNoAddress(check);
        otherwiseStop1(check);
        everyOpIsKnown(check);
        check.end();
    }

    /** The instruction lies at 5, with register 1 = b, register 2 = c and register 3 = 12345. */
    private static LineDebugger machineAt5(int instruction, int b, int c) {
        LineDebugger x = new LineDebugger();
        x.load(5, instruction);
        Target.setRegister(x, 1, b);
        Target.setRegister(x, 2, c);
        Target.setRegister(x, 3, 12345);
        Target.setPc(x, 5);
        return x;
    }

    private static void wordsAt0To63(Check check) {
        check.sentence("THE MACHINE has 64 WORDS (ints) at the addresses 0 .. 63");
        for (int address : new int[] {0, 1, 62, 63}) {
            LineDebugger x = new LineDebugger();
            x.load(address, Target.set(4, address + 300));
            Target.setPc(x, address);
            check.due("an instruction at " + address, Target.step(x), 1);
            check.due("was done", Target.register(x, 4), address + 300);
        }
        for (int value : new int[] {LOWEST, -1, HIGHEST}) {
            LineDebugger x = machineAt5(Target.instruction(8, 1, 0, 0, 63), value, 0);
            x.load(6, Target.instruction(7, 4, 0, 0, 63));
            Target.run(x, 2);
            check.due("an int goes into a word and comes out", Target.register(x, 4), value);
        }
    }

    private static void registers0To7(Check check) {
        check.sentence("REGISTERS 0 .. 7 (register 6 is its STACK, 7 its LINK) and a PC");
        for (int r = 0; r < 8; r++) {
            LineDebugger x = new LineDebugger();
            for (int other = 0; other < 8; other++) {
                Target.setRegister(x, other, 100 + other);
            }
            x.load(0, Target.instruction(3, r, r, 7 - r, 0));
            check.due("a sum into register " + r, Target.step(x), 1);
            for (int other = 0; other < 8; other++) {
                int want = other == r ? 207 : 100 + other;
                check.due("register " + other, Target.register(x, other), want);
            }
        }
    }

    private static void fieldsOfAnInstruction(Check check) {
        check.sentence("A word as an INSTRUCTION, from the lowest bit on: 4 bits OP, 3 bits a, "
                + "3 bits b, 3 bits c, and from bit 16 on, with its sign, n.");
        LineDebugger x = new LineDebugger();
        for (int r = 0; r < 8; r++) {
            Target.setRegister(x, r, 1 << (3 * r));
        }
        // 0x1834 is 6, 0, 3, 4 from bit 10, 7, 4 and 0 on.
        x.load(0, 0x1834);
        check.due("a difference", Target.step(x), 1);
        check.due("of registers 0 and 6 in 3", Target.register(x, 3), 1 - (1 << 18));
        LineDebugger y = machineAt5(Target.instruction(5, 1, 1, 1, 0), 12, 0);
        Target.step(y);
        check.due("one register for all three", Target.register(y, 1), 144);
    }

    private static void numbersWithTheirSign(Check check) {
        check.sentence("from bit 16 on, with its sign, n");
        for (int n : new int[] {-32768, -32767, -1, 0, 1, 32766, 32767}) {
            LineDebugger x = machineAt5(Target.set(3, n), 0, 0);
            Target.step(x);
            check.due("n " + n, Target.register(x, 3), n);
        }
    }

    private static void bitsThatDontMatter(Check check) {
        check.sentence("(Bits 13 to 15 don't matter.)");
        for (int op = 0; op <= 15; op++) {
            int instruction = Target.instruction(op, 3, 1, 2, 7);
            LineDebugger plain = machineAt5(instruction, 20, 3);
            int stop = Target.step(plain);
            for (int bit = 13; bit <= 15; bit++) {
                LineDebugger x = machineAt5(instruction | 1 << bit, 20, 3);
                check.due("op " + op + " with bit " + bit, Target.step(x), stop);
                x.load(5, instruction);
                check.due("op " + op + " did the same", View.ofMachine(x), View.ofMachine(plain));
            }
        }
    }

    private static void calculate(Check check, int op, int b, int c, int n, int want) {
        String what = "op " + op + " of " + b + ", " + c + ", " + n;
        LineDebugger x = machineAt5(Target.instruction(op, 3, 1, 2, n), b, c);
        check.due(what + " steps", Target.step(x), 1);
        check.due(what, Target.register(x, 3), want);
        check.due(what + " pc", Target.pc(x), 6);
        check.due(what + " b", Target.register(x, 1), b);
        check.due(what + " c", Target.register(x, 2), c);
        check.due(what + " steps made", x.count(5), 1);
    }

    private static void plainCalculations(Check check) {
        check.sentence(
                "OPS: 1 Ra = n. 2 Ra = Rb + n. 3 Ra = Rb + Rc. 4 Ra = Rb - Rc. 5 Ra = Rb * Rc.");
        calculate(check, 1, 7, 8, 9, 9);
        calculate(check, 2, 7, 8, -9, -2);
        calculate(check, 3, 7, 8, 9, 15);
        calculate(check, 4, 7, 8, 9, -1);
        calculate(check, 5, 7, -8, 9, -56);
    }

    private static void sumsAndProductsWrap(Check check) {
        check.sentence("Sums and products wrap.");
        calculate(check, 2, HIGHEST, 0, 1, LOWEST);
        calculate(check, 2, LOWEST, 0, -1, HIGHEST);
        calculate(check, 3, HIGHEST, HIGHEST, 0, -2);
        calculate(check, 3, LOWEST, LOWEST, 0, 0);
        calculate(check, 4, LOWEST, 1, 0, HIGHEST);
        calculate(check, 4, 0, LOWEST, 0, LOWEST);
        calculate(check, 5, 65536, 65537, 0, 65536);
        calculate(check, 5, HIGHEST, HIGHEST, 0, 1);
        calculate(check, 5, LOWEST, -1, 0, LOWEST);
    }

    private static void quotients(Check check) {
        check.sentence("6 Ra = Rb / Rc (towards 0; -2^31 / -1 is -2^31).");
        calculate(check, 6, 7, 2, 9, 3);
        calculate(check, 6, -7, 2, 9, -3);
        calculate(check, 6, 7, -2, 9, -3);
        calculate(check, 6, -7, -2, 9, 3);
        calculate(check, 6, 0, 5, 0, 0);
        calculate(check, 6, 1, HIGHEST, 0, 0);
        calculate(check, 6, LOWEST, 1, 0, LOWEST);
        calculate(check, 6, LOWEST, -1, 0, LOWEST);
    }

    private static void loadsAndStores(Check check) {
        check.sentence("7 Ra = the word at Rb + n. 8 the word at Rb + n = Ra.");
        int[][] reached = {{67, -4, 63}, {-4, 4, 0}, {32768 + 9, -32768, 9}, {9 - 32767, 32767, 9}};
        for (int[] each : reached) {
            LineDebugger x = machineAt5(Target.instruction(7, 3, 1, 0, each[1]), each[0], 0);
            x.load(each[2], 777);
            check.due("a LOAD from " + each[2], Target.step(x), 1);
            check.due("loaded", Target.register(x, 3), 777);
            check.due("pc", x.count(8), 6);
            LineDebugger y = machineAt5(Target.instruction(8, 3, 1, 0, each[1]), each[0], 0);
            check.due("a STORE to " + each[2], Target.step(y), 1);
            check.due("stored", Target.word(y, each[2]), 12345);
            check.due("pc", y.count(8), 6);
        }
    }

    private static void jump(Check check, int op, int ra, int n, int want) {
        String what = "op " + op + " with " + ra + " to " + n;
        LineDebugger x = machineAt5(Target.instruction(op, 1, 0, 0, n), ra, 0);
        Target.setRegister(x, 7, 99);
        check.due(what + " steps", Target.step(x), 1);
        check.due(what + " pc", Target.pc(x), want);
        check.due(what + " link", Target.register(x, 7), op == 11 ? 6 : 99);
        check.due(what + " ra", Target.register(x, 1), ra);
    }

    private static void jumps(Check check) {
        check.sentence("9 PC = n.");
        for (int n : new int[] {0, 5, 63, 64, -1, 32767, -32768}) {
            jump(check, 9, 1, n, n);
        }
    }

    private static void jumpsIfZero(Check check) {
        check.sentence("10 PC = n if Ra is 0.");
        jump(check, 10, 0, 40, 40);
        jump(check, 10, 0, -32768, -32768);
        jump(check, 10, 1, 40, 6);
        jump(check, 10, -1, 40, 6);
        jump(check, 10, LOWEST, 40, 6);
    }

    private static void calls(Check check) {
        check.sentence("11 link = PC + 1, PC = n.");
        jump(check, 11, 1, 40, 40);
        jump(check, 11, 1, -1, -1);
        LineDebugger x = new LineDebugger();
        x.load(63, Target.instruction(11, 2, 0, 0, 12));
        Target.setPc(x, 63);
        check.due("a call at 63", Target.step(x), 1);
        check.due("has the link 64", Target.register(x, 7), 64);
        check.due("pc", x.count(8), 12);
    }

    private static void jumpsToARegister(Check check) {
        check.sentence("12 PC = Ra.");
        for (int to : new int[] {0, 50, 63, 64, -1, LOWEST, HIGHEST}) {
            jump(check, 12, to, 40, to);
        }
        LineDebugger x = machineAt5(Target.instruction(12, 7, 0, 0, 0), 0, 0);
        Target.setRegister(x, 7, 30);
        Target.step(x);
        check.due("back by the link", x.count(8), 30);
    }

    private static void jumpsIfBelowZero(Check check) {
        check.sentence("13 PC = n if Ra is below 0.");
        jump(check, 13, -1, 40, 40);
        jump(check, 13, LOWEST, 40, 40);
        jump(check, 13, 0, 40, 6);
        jump(check, 13, 1, 40, 6);
        jump(check, 13, HIGHEST, 40, 6);
    }

    private static void pcGrowsByOne(Check check) {
        check.sentence("Unless it says where PC goes, PC grows by 1.");
        int[] ops = {1, 2, 3, 4, 5, 6, 7, 8, 10, 13};
        for (int op : ops) {
            for (int at : new int[] {0, 63}) {
                LineDebugger x = new LineDebugger();
                Target.setRegister(x, 1, 1);
                x.load(at, Target.instruction(op, 1, 1, 1, 30));
                Target.setPc(x, at);
                check.due("op " + op + " at " + at, Target.step(x), 1);
                check.due("pc behind op " + op, x.count(8), at + 1);
            }
        }
    }

    private static void changesNothing(Check check, String what, LineDebugger x, int stop) {
        String before = View.ofMachine(x);
        check.due(what + " by a step", Target.step(x), stop);
        check.due(what + " by a run", Target.run(x, 10), stop);
        check.due(what + " changed nothing", View.ofMachine(x), before);
    }

    private static void stop(Check check, int instruction, int b, int c, int stop) {
        String what = "instruction " + Integer.toHexString(instruction) + " of " + b + ", " + c;
        changesNothing(check, what, machineAt5(instruction, b, c), stop);
    }

    private static void halts(Check check) {
        check.sentence("but with HALT (stop 3)");
        stop(check, Target.HALT, 0, 0, 3);
        stop(check, Target.instruction(0, 3, 1, 2, 9), 4, 5, 3);
        stop(check, 0xfffffff0, 0, 0, 3);
    }

    private static void breaks(Check check) {
        check.sentence("BREAK (stop 2)");
        stop(check, Target.BREAK, 0, 0, 2);
        stop(check, Target.instruction(15, 3, 1, 2, 9), 4, 5, 2);
        stop(check, -1, 0, 0, 2);
    }

    private static void pcIsNoAddress(Check check) {
        check.sentence("and a FAULT (stop 4: PC is no address");
        for (int pc : new int[] {-1, 64, 256, LOWEST, HIGHEST}) {
            LineDebugger x = new LineDebugger();
            for (int address = 0; address < 64; address++) {
                x.load(address, Target.ADD_ONE);
            }
            Target.setPc(x, pc);
            changesNothing(check, "PC " + pc, x, 4);
        }
    }

    private static void op14(Check check) {
        check.sentence("OP 14");
        stop(check, Target.NONE, 0, 0, 4);
        stop(check, Target.instruction(14, 3, 1, 2, 32767), 5, 6, 4);
        stop(check, 0xfffffffe, 0, 0, 4);
    }

    private static void divisionsByZero(Check check) {
        check.sentence("a division by 0");
        for (int b : new int[] {9, 0, -1, LOWEST}) {
            stop(check, Target.instruction(6, 3, 1, 2, 1), b, 0, 4);
        }
        stop(check, Target.instruction(6, 2, 1, 2, 1), 7, 0, 4);
    }

    private static void wordsAtNoAddress(Check check) {
        check.sentence("a word at no address) nothing changes");
        for (int op = 7; op <= 8; op++) {
            stop(check, Target.instruction(op, 3, 1, 0, 1), 63, 0, 4);
            stop(check, Target.instruction(op, 3, 1, 0, -1), 0, 0, 4);
            stop(check, Target.instruction(op, 3, 1, 0, 0), 256, 0, 4);
            stop(check, Target.instruction(op, 3, 1, 0, 32767), HIGHEST, 0, 4);
            stop(check, Target.instruction(op, 3, 1, 0, -32768), LOWEST, 0, 4);
        }
    }

    private static void everyOpIsKnown(Check check) {
        check.sentence("0 HALT. 15 BREAK. 14 is none.");
        int[] stops = {3, 1, 1, 1, 1, 1, 1, 1, 1, 1, 1, 1, 1, 1, 4, 2};
        for (int op = 0; op <= 15; op++) {
            LineDebugger x = machineAt5(Target.instruction(op, 3, 1, 2, 2), 20, 3);
            check.due("op " + op, Target.step(x), stops[op]);
        }
    }

    private static void otherwiseStop1(Check check) {
        check.sentence("otherwise it is stop 1");
        for (int op = 1; op <= 13; op++) {
            LineDebugger x = machineAt5(Target.instruction(op, 3, 1, 2, 2), 20, 3);
            check.due("op " + op, Target.step(x), 1);
            check.due("steps", x.count(5), 1);
        }
    }
}
