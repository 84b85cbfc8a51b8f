/** Short names for what the tests do with the machine over the line. */
final class Target {
    static final int BREAK = 15;
    static final int HALT = 0;

    private Target() {}

    static int instruction(int op, int a, int b, int c, int n) {
        return op | a << 4 | b << 7 | c << 10 | n << 16;
    }

    static int register(LineDebugger x, int r) {
        return x.request(0, r, 0);
    }

    static void setRegister(LineDebugger x, int r, int v) {
        x.request(1, r, v);
    }

    static int word(LineDebugger x, int address) {
        return x.request(2, address, 0);
    }

    static int putBreakpoint(LineDebugger x, int address) {
        return x.request(4, address, 0);
    }

    static int takeBreakpoint(LineDebugger x, int address) {
        return x.request(5, address, 0);
    }

    static int step(LineDebugger x) {
        return x.request(6, 0, 0);
    }

    static int run(LineDebugger x, int steps) {
        return x.request(7, 0, steps);
    }

    static int pc(LineDebugger x) {
        return x.request(8, 0, 0);
    }

    static void setPc(LineDebugger x, int pc) {
        x.request(9, 0, pc);
    }

    static void loadFrom(LineDebugger x, int address, int... words) {
        for (int i = 0; i < words.length; i++) {
            x.load(address + i, words[i]);
        }
    }

    static void tellFaults(LineDebugger x, int... faults) {
        for (int fault : faults) {
            x.fault(fault);
        }
    }

    static void giveOperations(LineDebugger x, int[]... operations) {
        for (int[] operation : operations) {
            x.operation(operation[0], operation.length > 1 ? operation[1] : 0);
        }
    }
}
