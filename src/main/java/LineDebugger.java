/**
 * A debugger for a small machine at the far end of a line that loses and spoils what is sent.
 *
 * <p>Three parties stand in this file: the machine itself, the stub that sits in it and does
 * requests, and the debugger, which reaches both by frames over the line alone (but for load and
 * count, which look into the machine directly).
 */
public final class LineDebugger {
    private static final int WORDS = 64;
    private static final int REGISTERS = 8;
    private static final int STACK = 6;
    private static final int LINK = 7;
    // In the row of a frame the PC stands behind the registers, where frame(f, 8) asks for it.
    private static final int PC = 8;

    private static final int READ_REGISTER = 0;
    private static final int WRITE_REGISTER = 1;
    private static final int READ_WORD = 2;
    private static final int WRITE_WORD = 3;
    private static final int PUT_BREAKPOINT = 4;
    private static final int TAKE_BREAKPOINT = 5;
    private static final int STEP = 6;
    private static final int RUN = 7;
    private static final int READ_PC = 8;
    private static final int WRITE_PC = 9;

    private static final int DONE = 0;
    private static final int REFUSED = 1;

    private static final int REQUEST_BYTES = 8;
    private static final int ANSWER_BYTES = 7;
    private static final int FIRST_ANSWER_INDEX = 16;

    private static final int MOST_RULES = 8;
    private static final int MOST_FRAMES = 8;
    private static final int HIGHEST_SLOT = 15;
    private static final int NOT_IN_A_SLOT = -1;

    private final Machine machine;
    private final Stub stub;
    private final Line line;
    private final RuleTable rules;
    private final Backtrace backtrace;
    private final Expression expression;

    public LineDebugger() {
        machine = new Machine();
        stub = new Stub(machine);
        line = new Line(stub);
        rules = new RuleTable();
        backtrace = new Backtrace();
        expression = new Expression();
    }

    public boolean load(int address, int word) {
        if (!isAddress(address)) {
            return false;
        }
        machine.words[address] = word;
        return true;
    }

    public int fault(int fault) throws IllegalArgumentException, IllegalStateException {
        if (fault < 0) {
            throw new IllegalArgumentException("a fault is 0 or more");
        }
        return line.tellFault(fault);
    }

    public int request(int kind, int a, int v)
            throws IllegalArgumentException, UnsupportedOperationException {
        if (kind < READ_REGISTER || kind > WRITE_PC) {
            throw new IllegalArgumentException("a kind is 0 to 9");
        }
        int value = line.ask(kind, a, v);
        if (line.status != DONE) {
            throw new IllegalArgumentException("the stub refused the request");
        }
        return value;
    }

    public int byteAt(int i) {
        if (i >= 0 && i < REQUEST_BYTES) {
            return line.request[i];
        }
        if (i >= FIRST_ANSWER_INDEX && i < FIRST_ANSWER_INDEX + ANSWER_BYTES) {
            return stub.answer[i - FIRST_ANSWER_INDEX];
        }
        return 0;
    }

    public int rule(int from, int to, int size, int slot)
            throws IllegalArgumentException, IllegalStateException {
        if (from > to) {
            throw new IllegalArgumentException("from is above to");
        }
        if (size < 0 || size > 15) {
            throw new IllegalArgumentException("a size is 0 to 15");
        }
        if (slot != NOT_IN_A_SLOT && !isSlot(slot)) {
            throw new IllegalArgumentException("a return address is in slot 0 to 15, or -1");
        }
        return rules.append(from, to, size, slot);
    }

    public void save(int register, int slot)
            throws IllegalStateException, IllegalArgumentException {
        if (rules.size == 0) {
            throw new IllegalStateException("there is no rule");
        }
        if (!isRegister(register) || register == STACK) {
            throw new IllegalArgumentException("a saved register is 0 to 5 or 7");
        }
        if (!isSlot(slot)) {
            throw new IllegalArgumentException("a slot is 0 to 15");
        }
        rules.rows[rules.size - 1].slots[register] = slot;
    }

    public int unwind() throws UnsupportedOperationException {
        backtrace.askMachine(line);
        int count = 1;
        while (count < MOST_FRAMES && backtrace.askCaller(count, rules, line)) {
            count++;
        }
        backtrace.keep(count);
        return count;
    }

    public int frame(int frame, int r) throws IndexOutOfBoundsException {
        if (!backtrace.has(frame)) {
            throw new IndexOutOfBoundsException("there is no such frame");
        }
        if (r != PC && !isRegister(r)) {
            throw new IndexOutOfBoundsException("there is no such register");
        }
        return backtrace.latest[frame][r];
    }

    public int operation(int operation, int v)
            throws IllegalArgumentException, IllegalStateException {
        if (operation < Expression.CONSTANT || operation > Expression.BELOW_AGAIN) {
            throw new IllegalArgumentException("an operation is 0 to 10");
        }
        if (operation == Expression.REGISTER && !isRegister(v)) {
            throw new IllegalArgumentException("a register is 0 to 7");
        }
        return expression.append(operation, v);
    }

    public int drop() {
        int had = expression.size;
        expression.size = 0;
        return had;
    }

    public int evaluate(int frame)
            throws IndexOutOfBoundsException, IllegalStateException, ArithmeticException,
                    IllegalArgumentException, UnsupportedOperationException {
        if (!backtrace.has(frame)) {
            throw new IndexOutOfBoundsException("there is no such frame");
        }
        expression.depth = 0;
        for (int i = 0; i < expression.size; i++) {
            expression.apply(i, backtrace.latest[frame], line);
        }
        return expression.top();
    }

    public int count(int what) {
        switch (what) {
            case 0:
                return line.requests;
            case 1:
                return line.debuggerFrames;
            case 2:
                return line.stubFrames;
            case 3:
                return line.thrownAway;
            case 4:
                return line.waitingFaults;
            case 5:
                return machine.steps;
            case 6:
                return stub.breakpoints;
            case 7:
                return backtrace.size;
            case 8:
                return machine.pc;
            case 9:
                return expression.size;
            default:
                return -1;
        }
    }

    private static boolean isAddress(int address) {
        return address >= 0 && address < WORDS;
    }

    private static boolean isRegister(int register) {
        return register >= 0 && register < REGISTERS;
    }

    private static boolean isSlot(int slot) {
        return slot >= 0 && slot <= HIGHEST_SLOT;
    }

    private static final class Machine {
        static final int STOP_STEPPED = 1;
        static final int STOP_BREAK = 2;
        static final int STOP_HALT = 3;
        static final int STOP_FAULT = 4;
        static final int STOP_ALL_STEPS = 5;

        static final int HALT = 0;
        static final int SET = 1;
        static final int ADD_NUMBER = 2;
        static final int ADD = 3;
        static final int SUBTRACT = 4;
        static final int MULTIPLY = 5;
        static final int DIVIDE = 6;
        static final int LOAD = 7;
        static final int STORE = 8;
        static final int JUMP = 9;
        static final int JUMP_IF_ZERO = 10;
        static final int CALL = 11;
        static final int JUMP_TO_REGISTER = 12;
        static final int JUMP_IF_NEGATIVE = 13;
        static final int NO_INSTRUCTION = 14;
        static final int BREAK = 15;

        final int[] words = new int[WORDS];
        final int[] registers = new int[REGISTERS];
        int pc;
        int steps;

        static boolean isBreak(int instruction) {
            return (instruction & 15) == BREAK;
        }

        // A PC outside the memory faults just as OP 14 does, so that one stands for the other.
        int instructionAtPc() {
            return isAddress(pc) ? words[pc] : NO_INSTRUCTION;
        }

        // Each case leaves before it changes anything when it is not a step of stop 1.
        int execute(int instruction) {
            int a = (instruction >> 4) & 7;
            int b = registers[(instruction >> 7) & 7];
            int c = registers[(instruction >> 10) & 7];
            int n = instruction >> 16;
            int next = pc + 1;
            switch (instruction & 15) {
                case HALT:
                    return STOP_HALT;
                case BREAK:
                    return STOP_BREAK;
                case JUMP:
                    next = n;
                    break;
                case JUMP_IF_ZERO:
                    next = registers[a] == 0 ? n : next;
                    break;
                case CALL:
                    registers[LINK] = next;
                    next = n;
                    break;
                case JUMP_TO_REGISTER:
                    next = registers[a];
                    break;
                case JUMP_IF_NEGATIVE:
                    next = registers[a] < 0 ? n : next;
                    break;
                case LOAD:
                    if (!isAddress(b + n)) {
                        return STOP_FAULT;
                    }
                    registers[a] = words[b + n];
                    break;
                case STORE:
                    if (!isAddress(b + n)) {
                        return STOP_FAULT;
                    }
                    words[b + n] = registers[a];
                    break;
                case DIVIDE:
                    if (c == 0) {
                        return STOP_FAULT;
                    }
                    registers[a] = b / c;
                    break;
                case NO_INSTRUCTION:
                    return STOP_FAULT;
                default:
                    registers[a] = calculate(instruction & 15, b, c, n);
            }
            pc = next;
            steps++;
            return STOP_STEPPED;
        }

        private static int calculate(int op, int b, int c, int n) {
            switch (op) {
                case SET:
                    return n;
                case ADD_NUMBER:
                    return b + n;
                case ADD:
                    return b + c;
                case SUBTRACT:
                    return b - c;
                case MULTIPLY:
                default:
                    return b * c;
            }
        }
    }

    private static final class Stub {
        static final int MOST_BREAKPOINTS = 4;
        static final int MOST_STEPS = 200;

        final int[] answer = new int[ANSWER_BYTES];
        int breakpoints;
        private final Machine machine;
        private final boolean[] isBreakpoint = new boolean[WORDS];
        private final int[] wordUnder = new int[WORDS];
        // No request has the number 0, so that the first one is always new.
        private int latestDone;
        private int status;

        Stub(Machine machine) {
            this.machine = machine;
        }

        // A request that comes once more was done already: only its kept answer goes out again.
        void receive(int[] frame) {
            if (frame[0] == latestDone) {
                return;
            }
            latestDone = frame[0];
            status = DONE;
            int value = perform(frame[1], frame[2], Bytes.word(frame, 3));
            answer[0] = latestDone;
            answer[1] = status;
            Bytes.putWord(answer, 2, value);
            Bytes.putSum(answer, ANSWER_BYTES);
        }

        private int perform(int kind, int a, int v) {
            switch (kind) {
                case READ_REGISTER:
                    return isRegister(a) ? machine.registers[a] : refuse();
                case WRITE_REGISTER:
                    return writeRegister(a, v);
                case READ_WORD:
                    return readWord(a);
                case WRITE_WORD:
                    return writeWord(a, v);
                case PUT_BREAKPOINT:
                    return putBreakpoint(a);
                case TAKE_BREAKPOINT:
                    return takeBreakpoint(a);
                case STEP:
                    return machine.execute(firstInstruction());
                case RUN:
                    return run(firstInstruction(), v);
                case READ_PC:
                    return machine.pc;
                case WRITE_PC:
                    machine.pc = v;
                    return 0;
                default:
                    return refuse();
            }
        }

        private int refuse() {
            status = REFUSED;
            return 0;
        }

        private boolean hasBreakpoint(int a) {
            return isAddress(a) && isBreakpoint[a];
        }

        private int writeRegister(int a, int v) {
            if (!isRegister(a)) {
                return refuse();
            }
            machine.registers[a] = v;
            return 0;
        }

        private int readWord(int a) {
            if (!isAddress(a)) {
                return refuse();
            }
            return isBreakpoint[a] ? wordUnder[a] : machine.words[a];
        }

        private int writeWord(int a, int v) {
            if (!isAddress(a)) {
                return refuse();
            }
            if (isBreakpoint[a]) {
                wordUnder[a] = v;
            } else {
                machine.words[a] = v;
            }
            return 0;
        }

        private int putBreakpoint(int a) {
            if (!isAddress(a) || isBreakpoint[a] || breakpoints == MOST_BREAKPOINTS) {
                return refuse();
            }
            isBreakpoint[a] = true;
            wordUnder[a] = machine.words[a];
            machine.words[a] = Machine.BREAK;
            breakpoints++;
            return 0;
        }

        private int takeBreakpoint(int a) {
            if (!hasBreakpoint(a)) {
                return refuse();
            }
            isBreakpoint[a] = false;
            machine.words[a] = wordUnder[a];
            breakpoints--;
            return 0;
        }

        // Without this no run could ever leave the breakpoint that it stopped at.
        private int firstInstruction() {
            return hasBreakpoint(machine.pc) ? wordUnder[machine.pc] : machine.instructionAtPc();
        }

        private int run(int first, int most) {
            if (most < 0 || most > MOST_STEPS) {
                return refuse();
            }
            int instruction = first;
            for (int i = 0; i < most; i++) {
                int stop = machine.execute(instruction);
                if (stop != Machine.STOP_STEPPED) {
                    return stop;
                }
                instruction = machine.instructionAtPc();
                if (Machine.isBreak(instruction)) {
                    return Machine.STOP_BREAK;
                }
            }
            return Machine.STOP_ALL_STEPS;
        }
    }

    private static final class Line {
        static final int MOST_FAULTS = 40;
        static final int MOST_TRIES = 4;
        static final int HIGHEST_NUMBER = 255;
        static final int NO_FAULT = 0;
        static final int LOST = 1;
        static final int FIRST_BIT = 2;

        final int[] request = new int[REQUEST_BYTES];
        int status;
        int requests;
        int debuggerFrames;
        int stubFrames;
        int thrownAway;
        int waitingFaults;
        private final Stub stub;
        private final int[] faults = new int[MOST_FAULTS];
        private int firstFault;
        // A frame is spoilt in this row, never in its sender's, which sends it again or shows it.
        private final int[] arrived = new int[REQUEST_BYTES];

        Line(Stub stub) {
            this.stub = stub;
        }

        int tellFault(int fault) {
            if (waitingFaults == MOST_FAULTS) {
                throw new IllegalStateException("40 faults wait already");
            }
            faults[(firstFault + waitingFaults) % MOST_FAULTS] = fault;
            waitingFaults++;
            return waitingFaults;
        }

        // The answer's value; its status stays in the field, as two things come back.
        int ask(int kind, int a, int v) {
            writeRequest(kind, a, v);
            for (int i = 0; i < MOST_TRIES; i++) {
                debuggerFrames++;
                if (carry(request, REQUEST_BYTES)) {
                    stub.receive(arrived);
                    stubFrames++;
                    if (carry(stub.answer, ANSWER_BYTES) && arrived[0] == request[0]) {
                        status = arrived[1];
                        return Bytes.word(arrived, 2);
                    }
                }
            }
            throw new UnsupportedOperationException("the request was given up");
        }

        private void writeRequest(int kind, int a, int v) {
            request[0] = requests % HIGHEST_NUMBER + 1;
            request[1] = kind;
            request[2] = a & 255;
            Bytes.putWord(request, 3, v);
            Bytes.putSum(request, REQUEST_BYTES);
            requests++;
        }

        // Whether the frame came through whole; it lies in the row of arrived bytes then.
        private boolean carry(int[] frame, int length) {
            int fault = takeFault();
            if (fault == LOST) {
                return false;
            }
            System.arraycopy(frame, 0, arrived, 0, length);
            if (fault >= FIRST_BIT) {
                int bit = (fault - FIRST_BIT) % (8 * length);
                arrived[bit / 8] ^= 1 << (bit % 8);
            }
            if (Bytes.sum(arrived, length) == arrived[length - 1]) {
                return true;
            }
            thrownAway++;
            return false;
        }

        private int takeFault() {
            if (waitingFaults == 0) {
                return NO_FAULT;
            }
            int fault = faults[firstFault];
            firstFault = (firstFault + 1) % MOST_FAULTS;
            waitingFaults--;
            return fault;
        }
    }

    private static final class Bytes {
        static int word(int[] bytes, int at) {
            return bytes[at]
                    | (bytes[at + 1] << 8)
                    | (bytes[at + 2] << 16)
                    | (bytes[at + 3] << 24);
        }

        static void putWord(int[] bytes, int at, int word) {
            for (int i = 0; i < 4; i++) {
                bytes[at + i] = (word >> (8 * i)) & 255;
            }
        }

        static int sum(int[] bytes, int length) {
            int sum = 0;
            for (int i = 0; i < length - 1; i++) {
                sum += bytes[i];
            }
            return sum & 255;
        }

        static void putSum(int[] bytes, int length) {
            bytes[length - 1] = sum(bytes, length);
        }
    }

    private static final class Rule {
        int from;
        int to;
        int size;
        // By the places of a frame's row: the slot of the return address stands at PC.
        final int[] slots = new int[REGISTERS + 1];

        Rule() {
            for (int place = 0; place <= REGISTERS; place++) {
                slots[place] = NOT_IN_A_SLOT;
            }
        }
    }

    private static final class RuleTable {
        final Rule[] rows = new Rule[MOST_RULES];
        int size;

        RuleTable() {
            for (int i = 0; i < MOST_RULES; i++) {
                rows[i] = new Rule();
            }
        }

        int append(int from, int to, int frameSize, int returnSlot) {
            if (size == MOST_RULES) {
                throw new IllegalStateException("there are eight rules already");
            }
            Rule row = rows[size];
            row.from = from;
            row.to = to;
            row.size = frameSize;
            row.slots[PC] = returnSlot;
            size++;
            return size;
        }

        Rule firstFor(int pc) {
            for (int i = 0; i < size; i++) {
                if (rows[i].from <= pc && pc <= rows[i].to) {
                    return rows[i];
                }
            }
            return null;
        }
    }

    private static final class Backtrace {
        int[][] latest = new int[MOST_FRAMES][REGISTERS + 1];
        int size;
        // An unwinding that is given up must leave the latest frames, so it fills rows apart.
        private int[][] coming = new int[MOST_FRAMES][REGISTERS + 1];

        boolean has(int f) {
            return f >= 0 && f < size;
        }

        void askMachine(Line line) {
            coming[0][PC] = line.ask(READ_PC, 0, 0);
            for (int r = 0; r < REGISTERS; r++) {
                coming[0][r] = line.ask(READ_REGISTER, r, 0);
            }
        }

        // Whether frame f (1 to 7) can be had from the one before it.
        boolean askCaller(int f, RuleTable rules, Line line) {
            int[] inner = coming[f - 1];
            int[] outer = coming[f];
            Rule rule = rules.firstFor(inner[PC]);
            if (rule == null) {
                return false;
            }
            System.arraycopy(inner, 0, outer, 0, REGISTERS);
            outer[STACK] = inner[STACK] + rule.size;
            outer[PC] = inner[LINK];
            for (int i = 0; i <= REGISTERS; i++) {
                // The return address is asked for before any register.
                int place = i == 0 ? PC : i - 1;
                if (rule.slots[place] != NOT_IN_A_SLOT) {
                    int address = inner[STACK] + rule.slots[place];
                    if (!isAddress(address)) {
                        return false;
                    }
                    outer[place] = line.ask(READ_WORD, address, 0);
                }
            }
            return true;
        }

        void keep(int count) {
            int[][] spare = latest;
            latest = coming;
            coming = spare;
            size = count;
        }
    }

    private static final class Expression {
        static final int MOST_OPERATIONS = 20;
        static final int MOST_ON_STACK = 8;

        static final int CONSTANT = 0;
        static final int REGISTER = 1;
        static final int WORD = 2;
        static final int SUM = 3;
        static final int DIFFERENCE = 4;
        static final int PRODUCT = 5;
        static final int QUOTIENT = 6;
        static final int TOP_TWICE = 7;
        static final int CHANGE_PLACES = 8;
        static final int TOP_GOES = 9;
        static final int BELOW_AGAIN = 10;

        int size;
        int depth;
        private final int[] operations = new int[MOST_OPERATIONS];
        private final int[] numbers = new int[MOST_OPERATIONS];
        private final int[] stack = new int[MOST_ON_STACK];

        int append(int operation, int v) {
            if (size == MOST_OPERATIONS) {
                throw new IllegalStateException("there are 20 operations already");
            }
            operations[size] = operation;
            numbers[size] = v;
            size++;
            return size;
        }

        int top() {
            need(1);
            return stack[depth - 1];
        }

        void apply(int i, int[] row, Line line) {
            switch (operations[i]) {
                case CONSTANT:
                    push(numbers[i]);
                    break;
                case REGISTER:
                    push(row[numbers[i]]);
                    break;
                case WORD:
                    need(1);
                    if (!isAddress(stack[depth - 1])) {
                        throw new IllegalArgumentException("there is no word at that address");
                    }
                    stack[depth - 1] = line.ask(READ_WORD, stack[depth - 1], 0);
                    break;
                case TOP_TWICE:
                    need(1);
                    push(stack[depth - 1]);
                    break;
                case CHANGE_PLACES:
                    changePlaces();
                    break;
                case TOP_GOES:
                    need(1);
                    depth--;
                    break;
                case BELOW_AGAIN:
                    need(2);
                    push(stack[depth - 2]);
                    break;
                default:
                    need(2);
                    stack[depth - 2] =
                            combine(operations[i], stack[depth - 2], stack[depth - 1]);
                    depth--;
            }
        }

        private void need(int count) {
            if (depth < count) {
                throw new IllegalStateException("the stack has too few");
            }
        }

        private void push(int number) {
            if (depth == MOST_ON_STACK) {
                throw new IllegalStateException("the stack would have nine");
            }
            stack[depth] = number;
            depth++;
        }

        private void changePlaces() {
            need(2);
            int upper = stack[depth - 1];
            stack[depth - 1] = stack[depth - 2];
            stack[depth - 2] = upper;
        }

        private static int combine(int operation, int lower, int upper) {
            switch (operation) {
                case SUM:
                    return lower + upper;
                case DIFFERENCE:
                    return lower - upper;
                case PRODUCT:
                    return lower * upper;
                case QUOTIENT:
                default:
                    if (upper == 0) {
                        throw new ArithmeticException("the divisor is 0");
                    }
                    return lower / upper;
            }
        }
    }
}
