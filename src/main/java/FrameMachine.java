/**
 * A machine with data and address registers, two stacks and a supervisor, exceptions through a
 * table of vectors, a timer and a line. What it does is promised in DOC.md; the names here are
 * that document's words.
 */
public final class FrameMachine {
    public static final int NONE = -1;

    private static final int MEMORY_BYTES = 1024;
    private static final int LAST_WORD = MEMORY_BYTES - 2;

    private static final int TRACE = 32768;
    private static final int SUPERVISOR = 8192;
    private static final int MASK = 1792;
    private static final int X = 16;
    private static final int N = 8;
    private static final int Z = 4;
    private static final int V = 2;
    private static final int C = 1;
    private static final int STATUS_BITS = TRACE | SUPERVISOR | MASK | X | N | Z | V | C;

    private static final int BYTE = 0;
    private static final int WORD = 1;
    private static final int LONG = 2;
    private static final int TOP_OF_LONG = 0x80000000;

    private static final int BUS_ERROR = 2;
    private static final int ADDRESS_ERROR = 3;
    private static final int NO_INSTRUCTION = 4;
    private static final int DIVISION_BY_ZERO = 5;
    private static final int OUT_OF_BOUNDS = 6;
    private static final int OVERFLOW = 7;
    private static final int NO_RIGHT = 8;
    private static final int TRACED = 9;
    private static final int LEVELS = 24;
    private static final int TRAPS = 32;

    private static final int STACK = 7;

    private final Devices devices;
    private final Bus bus;
    private final Registers registers;
    private final Exceptions exceptions;
    private final Processor processor;

    public FrameMachine() {
        devices = new Devices();
        bus = new Bus(devices);
        registers = new Registers();
        Pointers pointers = new Pointers(bus, registers);
        exceptions = new Exceptions(bus, registers, pointers);
        processor = new Processor(bus, registers, pointers, exceptions);
    }

    public boolean poke(int a, int w) throws IllegalArgumentException {
        if (isNoWordOfMemory(a) || w < 0 || w > 65535) {
            throw new IllegalArgumentException("no word of memory, or no word");
        }
        bus.write(a, WORD, w);
        return true;
    }

    public int peek(int a) throws IllegalArgumentException {
        if (isNoWordOfMemory(a)) {
            throw new IllegalArgumentException("no word of memory");
        }
        return bus.read(a, WORD);
    }

    public boolean set(int k, int v) throws IllegalArgumentException {
        if (k < 0 || k > 17) {
            throw new IllegalArgumentException("no register");
        }
        registers.change(k, v);
        return true;
    }

    public int status(int v) {
        registers.changeStatus(v);
        return registers.statusWord;
    }

    public int run(int n) throws IllegalArgumentException {
        if (n < 1 || n > 8) {
            throw new IllegalArgumentException("steps are 1 to 8");
        }
        int done = 0;
        for (int i = 0; i < n; i++) {
            if (processor.step()) {
                done++;
            }
        }
        return done;
    }

    public boolean comes(int b) throws IllegalArgumentException {
        if (b < 0 || b > 255) {
            throw new IllegalArgumentException("no byte");
        }
        return devices.receive(b);
    }

    public int reset() {
        processor.stopped = false;
        exceptions.halted = false;
        registers.changeStatus((registers.statusWord | SUPERVISOR | MASK) & ~TRACE);
        registers.address[STACK] = bus.read(0, LONG);
        registers.pc = bus.read(4, LONG);
        devices.clear();
        return registers.pc;
    }

    public int get(int k) throws IllegalArgumentException {
        if (k < 0 || k > 18) {
            throw new IllegalArgumentException("no register");
        }
        return registers.value(k);
    }

    public int gone(int i) {
        return devices.sentBefore(i);
    }

    public int about(int what) {
        switch (what) {
            case 0: return exceptions.halted ? 2 : processor.stopped ? 1 : 0;
            case 1: return processor.steps;
            case 2: return devices.sentCount;
            case 3: return devices.count;
            case 4: return exceptions.latest;
            case 5: return exceptions.count;
            default: return NONE;
        }
    }

    private static boolean isNoWordOfMemory(int a) {
        return (a & 1) != 0 || a < 0 || a > LAST_WORD;
    }

    private static int maskOf(int size) {
        return size == BYTE ? 255 : size == WORD ? 65535 : -1;
    }

    private static int topBitOf(int size) {
        return size == BYTE ? 128 : size == WORD ? 32768 : TOP_OF_LONG;
    }

    private static int withSign(int value, int size) {
        return size == BYTE ? (byte) value : size == WORD ? (short) value : value;
    }

    /** The timer and the line, and the four bytes through which a program sees them. */
    private static final class Devices {
        private static final int TIMER_COUNT = 61440;
        private static final int TIMER_CONTROL = 61441;
        private static final int LINE_BYTE = 61442;
        private static final int LINE_CONTROL = 61443;
        private static final int FULL_COUNT = 256;
        private static final int SENDING_STEPS = 8;
        private static final int KEPT = 16;

        /** 1 .. 256, as a 0 that is written counts as 256. */
        private int reload = FULL_COUNT;
        private int count = FULL_COUNT;
        private boolean runs;
        private boolean due;
        private boolean came;
        private int cameByte;
        private boolean lost;
        private int stepsToSend;
        private int sendingByte;
        private int sentCount;
        private final int[] sent = new int[KEPT];

        void clear() {
            reload = FULL_COUNT;
            count = FULL_COUNT;
            runs = false;
            due = false;
            came = false;
            cameByte = 0;
            lost = false;
            stepsToSend = 0;
            sendingByte = 0;
        }

        void step() {
            stepTimer();
            stepLine();
        }

        private void stepTimer() {
            if (!runs) {
                return;
            }
            count--;
            if (count == 0) {
                due = true;
                count = reload;
            }
        }

        private void stepLine() {
            if (stepsToSend == 0) {
                return;
            }
            stepsToSend--;
            if (stepsToSend == 0) {
                sent[sentCount % KEPT] = sendingByte;
                sentCount++;
            }
        }

        int level() {
            return came ? 4 : due ? 2 : 0;
        }

        boolean receive(int b) {
            if (came) {
                lost = true;
                return false;
            }
            came = true;
            cameByte = b;
            return true;
        }

        int sentBefore(int i) {
            if (i < 0 || i >= KEPT || i >= sentCount) {
                return NONE;
            }
            return sent[(sentCount - 1 - i) % KEPT];
        }

        int readByte(int address) {
            switch (address) {
                case TIMER_COUNT: return count & 255;
                case TIMER_CONTROL: return (runs ? 1 : 0) | (due ? 2 : 0);
                case LINE_BYTE:
                    int taken = came ? cameByte : 0;
                    came = false;
                    return taken;
                case LINE_CONTROL: return (came ? 1 : 0) | (lost ? 2 : 0) | (stepsToSend == 0 ? 4 : 0);
                default: return 0;
            }
        }

        void writeByte(int address, int value) {
            boolean bit1 = (value & 2) != 0;
            switch (address) {
                case TIMER_COUNT:
                    reload = (value & 255) == 0 ? FULL_COUNT : value & 255;
                    count = reload;
                    break;
                case TIMER_CONTROL:
                    runs = (value & 1) != 0;
                    due = due && !bit1;
                    break;
                case LINE_BYTE:
                    if (stepsToSend == 0) {
                        stepsToSend = SENDING_STEPS;
                        sendingByte = value & 255;
                    }
                    break;
                case LINE_CONTROL:
                    lost = lost && !bit1;
                    break;
                default:
                    break;
            }
        }
    }

    /** Memory and devices under their addresses. A failed access is noted in fault and does nothing. */
    private static final class Bus {
        private final byte[] memory = new byte[MEMORY_BYTES];
        private final Devices devices;
        private int fault;
        private int faultAddress;
        private boolean faultReading;

        Bus(Devices devices) {
            this.devices = devices;
        }

        int read(int address, int size) {
            if (fails(address, size, true)) {
                return 0;
            }
            if (address >= MEMORY_BYTES) {
                return devices.readByte(address);
            }
            int value = 0;
            for (int i = 0; i < 1 << size; i++) {
                value = value << 8 | memory[address + i] & 255;
            }
            return value;
        }

        void write(int address, int size, int value) {
            if (fails(address, size, false)) {
                return;
            }
            if (address >= MEMORY_BYTES) {
                devices.writeByte(address, value);
                return;
            }
            int rest = value;
            for (int i = (1 << size) - 1; i >= 0; i--) {
                memory[address + i] = (byte) rest;
                rest >>= 8;
            }
        }

        private boolean fails(int address, int size, boolean reading) {
            boolean inMemory = address >= 0 && address <= MEMORY_BYTES - (1 << size);
            boolean ofDevice = size == BYTE
                && address >= Devices.TIMER_COUNT && address <= Devices.LINE_CONTROL;
            if (size != BYTE && (address & 1) != 0) {
                fault = ADDRESS_ERROR;
            } else if (!inMemory && !ofDevice) {
                fault = BUS_ERROR;
            } else {
                return false;
            }
            faultAddress = address;
            faultReading = reading;
            return true;
        }
    }

    /** The registers and the status; address[7] is always the stack pointer that S asks for. */
    private static final class Registers {
        private final int[] data = new int[8];
        private final int[] address = new int[8];
        private int other;
        private int pc;
        private int statusWord = SUPERVISOR | MASK;

        void change(int k, int v) {
            if (k < 8) {
                data[k & 7] = v;
            } else if (k < 16) {
                address[k & 7] = v;
            } else if (k == 16) {
                other = v;
            } else {
                pc = v;
            }
        }

        int value(int k) {
            if (k < 8) {
                return data[k & 7];
            }
            if (k < 16) {
                return address[k & 7];
            }
            return k == 16 ? other : k == 17 ? pc : statusWord;
        }

        void changeStatus(int word) {
            boolean switches = ((word ^ statusWord) & SUPERVISOR) != 0;
            statusWord = word & STATUS_BITS;
            if (switches) {
                int kept = address[STACK];
                address[STACK] = other;
                other = kept;
            }
        }

        boolean has(int bit) {
            return (statusWord & bit) != 0;
        }

        void mark(int bit, boolean on) {
            statusWord = on ? statusWord | bit : statusWord & ~bit;
        }

        int levelMask() {
            return (statusWord & MASK) >> 8;
        }

        void putData(int index, int size, int value) {
            int changed = maskOf(size);
            data[index & 7] = data[index & 7] & ~changed | value & changed;
        }

        /** Of each pair of conditions the odd one is the even one denied. */
        boolean meets(int condition) {
            boolean even;
            switch (condition >> 1) {
                case 0: even = true; break;
                case 1: even = !has(C) && !has(Z); break;
                case 2: even = !has(C); break;
                case 3: even = !has(Z); break;
                case 4: even = !has(V); break;
                case 5: even = !has(N); break;
                case 6: even = has(N) == has(V); break;
                default: even = has(N) == has(V) && !has(Z); break;
            }
            return even == ((condition & 1) == 0);
        }
    }

    /** What is read at PC, and what is pushed and popped at A7. */
    private static final class Pointers {
        private final Bus bus;
        private final Registers registers;

        Pointers(Bus bus, Registers registers) {
            this.bus = bus;
            this.registers = registers;
        }

        int nextWord() {
            int word = bus.read(registers.pc, WORD);
            if (bus.fault == 0) {
                registers.pc += 2;
            }
            return word;
        }

        /** Two accesses, as the document reads an instruction by words: the second may fail alone. */
        int nextLong() {
            int high = nextWord();
            if (bus.fault != 0) {
                return 0;
            }
            return high << 16 | nextWord();
        }

        /** Nothing if an access before it has failed, so that pushes can be written in a row. */
        void push(int size, int value) {
            if (bus.fault != 0) {
                return;
            }
            registers.address[STACK] -= 1 << size;
            bus.write(registers.address[STACK], size, value);
        }

        int pop(int size) {
            int value = bus.read(registers.address[STACK], size);
            if (bus.fault == 0) {
                registers.address[STACK] += 1 << size;
            }
            return value;
        }
    }

    /** The parts of an instruction's first word, and whether it is an instruction at all. */
    private static final class Instruction {
        private static final int LOAD = 0;
        private static final int STORE = 1;
        private static final int LOADA = 2;
        private static final int ADD = 3;
        private static final int SUB = 4;
        private static final int CMP = 5;
        private static final int AND = 6;
        private static final int OR = 7;
        private static final int XOR = 8;
        private static final int ADDTO = 9;
        private static final int SUBTO = 10;
        private static final int ADDA = 11;
        private static final int LEA = 12;
        private static final int CLEAR = 13;
        private static final int TEST = 14;
        private static final int NEGATE = 15;
        private static final int NOT = 16;
        private static final int SHIFT = 17;
        private static final int MULTIPLY = 18;
        private static final int DIVIDE = 19;
        private static final int DIVIDES = 20;
        private static final int BRANCH = 21;
        private static final int JUMP = 22;
        private static final int CALL = 23;
        private static final int CONTROL = 24;
        private static final int TRAP = 25;
        private static final int SETS = 26;
        private static final int GETS = 27;
        private static final int OTHER = 28;
        private static final int CHECK = 29;

        private static final int RETURN = 2;
        private static final int STOP = 3;

        /** The kinds of operands: bit w stands for way w (see way()). */
        private static final int ANY = 0x3FF;
        private static final int DATA = 0x3FD;
        private static final int ALTERABLE = 0x0FD;
        private static final int PLACES = 0x2E4;

        /** By op: the kind of its operand; 0 when it has none. */
        private static final int[] KINDS = {
            ANY, ALTERABLE, ANY, ANY, ANY, ANY, DATA, DATA, DATA, ALTERABLE, ALTERABLE, ANY, PLACES,
            ALTERABLE, DATA, ALTERABLE, ALTERABLE, 0, DATA, DATA, DATA, 0, PLACES, PLACES, 0, 0,
            DATA, ALTERABLE, 0, DATA, 0, 0
        };

        /** By op: bit s tells that size s is allowed. */
        private static final int[] SIZES = {
            7, 7, 6, 7, 7, 7, 7, 7, 7, 7, 7, 6, 4,
            7, 7, 7, 7, 7, 2, 2, 2, 15, 4, 4, 15, 15,
            2, 2, 15, 2, 0, 0
        };

        private int word;
        private int op;
        private int size;
        private int r;
        private int m;
        private int q;

        void decode(int firstWord) {
            word = firstWord;
            op = firstWord >> 11 & 31;
            size = firstWord >> 9 & 3;
            r = firstWord >> 6 & 7;
            m = firstWord >> 3 & 7;
            q = firstWord & 7;
        }

        /** 0 .. 5 are m, 6 .. 9 are m 6 with q 0 .. 3, and 10 is no operand. */
        int way() {
            if (m < 6) {
                return m;
            }
            return m == 6 && q < 4 ? 6 + q : 10;
        }

        int condition() {
            return size * 8 + r;
        }

        boolean hasOperand() {
            return KINDS[op & 31] != 0;
        }

        boolean readsOperand() {
            boolean onlyWrites = op == STORE || op == CLEAR || op == GETS;
            return hasOperand() && !onlyWrites && KINDS[op & 31] != PLACES;
        }

        boolean isNone() {
            if ((SIZES[op & 31] >> size & 1) == 0) {
                return true;
            }
            switch (op) {
                case SHIFT: return m > 5;
                case BRANCH: return condition() > 15;
                case CONTROL: return q > 4;
                default: return hasOperand() && (kind() >> way() & 1) == 0;
            }
        }

        private int kind() {
            int kind = KINDS[op & 31];
            return size == BYTE && kind == ANY ? DATA : kind;
        }

        boolean needsSupervisor() {
            return op == SETS || op == OTHER || op == CONTROL && (q == RETURN || q == STOP);
        }
    }

    /** The operand of the instruction at work: a register, a place in memory or a value. */
    private static final class Operand {
        private final Bus bus;
        private final Registers registers;
        private final Pointers pointers;
        private int way;
        private int index;
        private int size;
        private int place;
        private int value;

        Operand(Bus bus, Registers registers, Pointers pointers) {
            this.bus = bus;
            this.registers = registers;
            this.pointers = pointers;
        }

        /** Reads the operand's own words, and does what is said of Aq, before any access to it. */
        void locate(Instruction instruction) {
            way = instruction.way();
            index = instruction.q & 7;
            size = instruction.size;
            int base = registers.address[index];
            int pc = registers.pc;
            switch (way) {
                case 2: place = base; break;
                case 3: place = base; registers.address[index] = base + stride(); break;
                case 4: place = base - stride(); registers.address[index] = place; break;
                case 5: place = base + (short) pointers.nextWord(); break;
                case 6: place = (short) pointers.nextWord(); break;
                case 7: place = pointers.nextLong(); break;
                case 8: value = size == LONG ? pointers.nextLong() : pointers.nextWord(); break;
                case 9: place = pc + (short) pointers.nextWord(); break;
                default: break;
            }
        }

        /** A byte takes two at the stack, which so stays even. */
        private int stride() {
            return size == BYTE && index == STACK ? 2 : 1 << size;
        }

        void load() {
            switch (way) {
                case 0: value = registers.data[index & 7]; break;
                case 1: value = registers.address[index & 7]; break;
                case 8: break;
                default: value = bus.read(place, size); break;
            }
            value &= maskOf(size);
        }

        void store(int result) {
            if (way == 0) {
                registers.putData(index, size, result);
            } else {
                bus.write(place, size, result);
            }
        }
    }

    /** Results and their flags. */
    private static final class Arithmetic {
        private final Registers registers;

        Arithmetic(Registers registers) {
            this.registers = registers;
        }

        void markResult(int result, int size) {
            markSign(result, size);
            registers.mark(V, false);
            registers.mark(C, false);
        }

        private void markSign(int result, int size) {
            registers.mark(N, (result & topBitOf(size)) != 0);
            registers.mark(Z, (result & maskOf(size)) == 0);
        }

        int sum(int a, int b, int size) {
            int result = a + b & maskOf(size);
            boolean carry = isBelow(result, a & maskOf(size));
            markSign(result, size);
            registers.mark(C, carry);
            registers.mark(X, carry);
            registers.mark(V, ((a ^ result) & (b ^ result) & topBitOf(size)) != 0);
            return result;
        }

        int difference(int a, int b, int size) {
            int result = compare(a, b, size);
            registers.mark(X, registers.has(C));
            return result;
        }

        int compare(int a, int b, int size) {
            int mask = maskOf(size);
            int result = a - b & mask;
            markSign(result, size);
            registers.mark(C, isBelow(a & mask, b & mask));
            registers.mark(V, ((a ^ b) & (a ^ result) & topBitOf(size)) != 0);
            return result;
        }

        private static boolean isBelow(int a, int b) {
            return (a ^ TOP_OF_LONG) < (b ^ TOP_OF_LONG);
        }

        /** Place by place, as V and C tell of what happened on the way. */
        int shift(int start, int size, int kind, int places) {
            int top = topBitOf(size);
            boolean left = kind % 2 == 0;
            int value = start & maskOf(size);
            boolean out = false;
            boolean topChanged = false;
            for (int i = 0; i < places; i++) {
                out = (value & (left ? top : 1)) != 0;
                int next = left ? onceLeft(value, size, kind == 4 && out) : value >>> 1;
                if (kind == 5 && out || kind == 1 && (value & top) != 0) {
                    next |= top;
                }
                topChanged = topChanged || ((next ^ value) & top) != 0;
                value = next;
            }
            markSign(value, size);
            registers.mark(C, out);
            registers.mark(V, kind == 0 && topChanged);
            if (kind < 4) {
                registers.mark(X, out);
            }
            return value;
        }

        private int onceLeft(int value, int size, boolean in) {
            return (value << 1 | (in ? 1 : 0)) & maskOf(size);
        }

        /** The divisor is not 0. */
        void divide(int index, long dividend, long divisor, boolean signed) {
            if (divisor == 0) {
                return;
            }
            long quotient = dividend / divisor;
            long rest = dividend % divisor;
            boolean fits = signed ? quotient == (short) quotient : quotient <= 65535;
            if (!fits) {
                registers.mark(V, true);
                registers.mark(C, false);
                return;
            }
            registers.putData(index, LONG, (int) rest << 16 | (int) quotient & 65535);
            markResult((int) quotient, WORD);
        }
    }

    /** Frames and vectors, and the halt when a frame of a failed access fails too. */
    private static final class Exceptions {
        private final Bus bus;
        private final Registers registers;
        private final Pointers pointers;
        private int latest;
        private int count;
        private boolean halted;

        Exceptions(Bus bus, Registers registers, Pointers pointers) {
            this.bus = bus;
            this.registers = registers;
            this.pointers = pointers;
        }

        void raise(int exception, int returnPc, int firstWord) {
            enter(exception, returnPc, firstWord);
            if (bus.fault != 0 && !isOfAccess(exception)) {
                enter(bus.fault, registers.pc, firstWord);
            }
            if (bus.fault != 0) {
                note(bus.fault);
                halted = true;
            }
        }

        private void enter(int exception, int returnPc, int firstWord) {
            int address = bus.faultAddress;
            int reading = bus.faultReading ? 1 : 0;
            int old = registers.statusWord;
            bus.fault = 0;
            note(exception);
            registers.changeStatus(statusIn(exception, old));
            pointers.push(LONG, returnPc);
            pointers.push(WORD, old);
            if (isOfAccess(exception)) {
                pointers.push(WORD, firstWord);
                pointers.push(LONG, address);
                pointers.push(WORD, reading);
            }
            if (bus.fault == 0) {
                registers.pc = bus.read(4 * exception, LONG);
            }
        }

        private void note(int exception) {
            latest = exception;
            count++;
        }

        private static int statusIn(int exception, int old) {
            int status = (old | SUPERVISOR) & ~TRACE;
            boolean ofLevel = exception > LEVELS && exception < TRAPS;
            return ofLevel ? status & ~MASK | exception - LEVELS << 8 : status;
        }

        private static boolean isOfAccess(int exception) {
            return exception == BUS_ERROR || exception == ADDRESS_ERROR;
        }

        boolean latestForbidsTrace() {
            return isOfAccess(latest) || latest == NO_INSTRUCTION || latest == NO_RIGHT;
        }
    }

    /** The steps of the machine and what each instruction does. */
    private static final class Processor {
        private final Bus bus;
        private final Registers registers;
        private final Pointers pointers;
        private final Exceptions exceptions;
        private final Instruction instruction = new Instruction();
        private final Operand operand;
        private final Arithmetic arithmetic;
        private int steps;
        private boolean stopped;
        private int start;
        private int pending;

        Processor(Bus bus, Registers registers, Pointers pointers, Exceptions exceptions) {
            this.bus = bus;
            this.registers = registers;
            this.pointers = pointers;
            this.exceptions = exceptions;
            operand = new Operand(bus, registers, pointers);
            arithmetic = new Arithmetic(registers);
        }

        /** Whether an instruction or an exception of a level was done. */
        boolean step() {
            steps++;
            if (exceptions.halted) {
                return false;
            }
            bus.devices.step();
            int level = bus.devices.level();
            if (level > registers.levelMask()) {
                stopped = false;
                exceptions.raise(LEVELS + level, registers.pc, 0);
                return true;
            }
            if (stopped) {
                return false;
            }
            boolean traced = registers.has(TRACE);
            begin();
            if (goesOn() && instruction.hasOperand()) {
                takeOperand();
            }
            if (goesOn()) {
                execute();
            }
            finish(traced);
            return true;
        }

        private boolean goesOn() {
            return bus.fault == 0 && pending == 0;
        }

        private void begin() {
            bus.fault = 0;
            pending = 0;
            start = registers.pc;
            instruction.decode(pointers.nextWord());
            if (bus.fault != 0) {
                return;
            }
            if (instruction.isNone()) {
                pending = NO_INSTRUCTION;
            } else if (instruction.needsSupervisor() && !registers.has(SUPERVISOR)) {
                pending = NO_RIGHT;
            }
        }

        private void takeOperand() {
            operand.locate(instruction);
            if (bus.fault == 0 && instruction.readsOperand()) {
                operand.load();
            }
        }

        private void finish(boolean traced) {
            if (bus.fault != 0) {
                pending = bus.fault;
            }
            boolean traceable = !stopped;
            if (pending != 0) {
                boolean repeats = pending == NO_INSTRUCTION || pending == NO_RIGHT;
                exceptions.raise(pending, repeats ? start : registers.pc, instruction.word);
                traceable = !exceptions.latestForbidsTrace();
            }
            if (traced && traceable) {
                exceptions.raise(TRACED, registers.pc, instruction.word);
            }
        }

        /**
         * An operand that is read has been read here. One that is then written is the same place,
         * so that the write cannot fail and the flags may be marked before it.
         */
        private void execute() {
            int r = instruction.r & 7;
            int size = instruction.size;
            int value = operand.value;
            int data = registers.data[r];
            switch (instruction.op) {
                case Instruction.LOAD: putMarked(value); break;
                case Instruction.STORE: storeMarked(data); break;
                case Instruction.LOADA: registers.address[r] = withSign(value, size); break;
                case Instruction.ADD: put(arithmetic.sum(data, value, size)); break;
                case Instruction.SUB: put(arithmetic.difference(data, value, size)); break;
                case Instruction.CMP: arithmetic.compare(data, value, size); break;
                case Instruction.AND: putMarked(data & value); break;
                case Instruction.OR: putMarked(data | value); break;
                case Instruction.XOR: putMarked(data ^ value); break;
                case Instruction.ADDTO: operand.store(arithmetic.sum(value, data, size)); break;
                case Instruction.SUBTO: operand.store(arithmetic.difference(value, data, size)); break;
                case Instruction.ADDA: registers.address[r] += withSign(value, size); break;
                case Instruction.LEA: registers.address[r] = operand.place; break;
                case Instruction.CLEAR: storeMarked(0); break;
                case Instruction.TEST: arithmetic.markResult(value, size); break;
                case Instruction.NEGATE: operand.store(arithmetic.difference(0, value, size)); break;
                case Instruction.NOT: storeMarked(~value); break;
                case Instruction.SHIFT: shift(data); break;
                case Instruction.MULTIPLY: multiply(data & 65535, value); break;
                case Instruction.DIVIDE: divide(data & 0xFFFFFFFFL, value, false); break;
                case Instruction.DIVIDES: divide(data, (short) value, true); break;
                case Instruction.BRANCH: branch(); break;
                case Instruction.JUMP: registers.pc = operand.place; break;
                case Instruction.CALL: call(operand.place); break;
                case Instruction.CONTROL: control(); break;
                case Instruction.TRAP: pending = TRAPS + instruction.q + 8 * (instruction.m % 2); break;
                case Instruction.SETS: registers.changeStatus(value); break;
                case Instruction.GETS: operand.store(registers.statusWord); break;
                case Instruction.OTHER: exchangeOther(); break;
                case Instruction.CHECK: check((short) data, (short) value); break;
                default: break;
            }
        }

        private void put(int result) {
            registers.putData(instruction.r, instruction.size, result);
        }

        private void putMarked(int result) {
            put(result);
            arithmetic.markResult(result, instruction.size);
        }

        private void storeMarked(int result) {
            operand.store(result);
            if (bus.fault == 0) {
                arithmetic.markResult(result, instruction.size);
            }
        }

        private void shift(int data) {
            int places = instruction.q == 0 ? 8 : instruction.q;
            put(arithmetic.shift(data, instruction.size, instruction.m, places));
        }

        private void multiply(int a, int b) {
            registers.putData(instruction.r, LONG, a * b);
            arithmetic.markResult(a * b, LONG);
        }

        private void divide(long dividend, long divisor, boolean signed) {
            if (divisor == 0) {
                pending = DIVISION_BY_ZERO;
            } else {
                arithmetic.divide(instruction.r, dividend, divisor, signed);
            }
        }

        private void branch() {
            int base = registers.pc;
            int target = base + (short) pointers.nextWord();
            if (bus.fault != 0) {
                return;
            }
            if (instruction.condition() == 1) {
                call(target);
            } else if (registers.meets(instruction.condition())) {
                registers.pc = target;
            }
        }

        private void call(int target) {
            pointers.push(LONG, registers.pc);
            if (bus.fault == 0) {
                registers.pc = target;
            }
        }

        private void control() {
            switch (instruction.q) {
                case 1: comeBack(); break;
                case Instruction.RETURN: comeBackFromException(); break;
                case Instruction.STOP: stop(); break;
                case 4: pending = registers.has(V) ? OVERFLOW : 0; break;
                default: break;
            }
        }

        private void comeBack() {
            int target = pointers.pop(LONG);
            if (bus.fault == 0) {
                registers.pc = target;
            }
        }

        private void comeBackFromException() {
            int word = pointers.pop(WORD);
            int target = bus.fault == 0 ? pointers.pop(LONG) : 0;
            if (bus.fault == 0) {
                registers.pc = target;
                registers.changeStatus(word);
            }
        }

        private void stop() {
            int word = pointers.nextWord();
            if (bus.fault == 0) {
                registers.changeStatus(word);
                stopped = true;
            }
        }

        private void exchangeOther() {
            int index = instruction.q & 7;
            if (instruction.m == 0) {
                registers.other = registers.address[index];
            } else {
                registers.address[index] = registers.other;
            }
        }

        private void check(int checked, int bound) {
            if (checked < 0 || checked > bound) {
                registers.mark(N, checked < 0);
                pending = OUT_OF_BOUNDS;
            }
        }
    }
}
