/** Short names for what the tests do with the machine over the line. */
final class Target {
    static final int LOWEST = Integer.MIN_VALUE;
    static final int HIGHEST = Integer.MAX_VALUE;
    static final int HALT = 0;
    static final int NONE = 14;
    static final int BREAK = 15;
    static final int ADD_ONE = instruction(2, 0, 0, 0, 1);

    private Target() {}

    static int instruction(int op, int a, int b, int c, int n) {
        return op | a << 4 | b << 7 | c << 10 | n << 16;
    }

    static int set(int a, int n) {
        return instruction(1, a, 0, 0, n);
    }

    static int jump(int n) {
        return instruction(9, 0, 0, 0, n);
    }

    static int register(LineDebugger x, int r) {
        return x.request(0, r, 0);
    }

    static int setRegister(LineDebugger x, int r, int v) {
        return x.request(1, r, v);
    }

    static int word(LineDebugger x, int address) {
        return x.request(2, address, 0);
    }

    static int setWord(LineDebugger x, int address, int v) {
        return x.request(3, address, v);
    }

    static int putBreakpoint(LineDebugger x, int address) {
        return x.request(4, address, 0);
    }

    static int takeBreakpoint(LineDebugger x, int address) {
        return x.request(5, address, 0);
    }

    static int step(LineDebugger x) {
        return x.request(6, 0, 0);
    }

    static int run(LineDebugger x, int steps) {
        return x.request(7, 0, steps);
    }

    static int pc(LineDebugger x) {
        return x.request(8, 0, 0);
    }

    static int setPc(LineDebugger x, int pc) {
        return x.request(9, 0, pc);
    }

    /**
     * What lies in the memory itself, be it a breakpoint's 15: a LOAD at 60 sees it. (The tests
     * that ask this have nothing at 60 and in register 5.)
     */
    static int inMemory(LineDebugger x, int address) {
        int pc = x.count(8);
        x.load(60, instruction(7, 5, 0, 0, address));
        int base = register(x, 0);
        setRegister(x, 0, 0);
        setPc(x, 60);
        step(x);
        setRegister(x, 0, base);
        setPc(x, pc);
        return register(x, 5);
    }

    static void loadFrom(LineDebugger x, int address, int... words) {
        for (int i = 0; i < words.length; i++) {
            x.load(address + i, words[i]);
        }
    }

    static void tellFaults(LineDebugger x, int... faults) {
        for (int fault : faults) {
            x.fault(fault);
        }
    }

    static void giveOperations(LineDebugger x, int[]... operations) {
        for (int[] operation : operations) {
            x.operation(operation[0], operation.length > 1 ? operation[1] : 0);
        }
    }
}
