/** Results and flags of the instructions 0 to 20 and 26 to 29. */
public final class InstructionsTest {
    private static final int ALL = Rig.X | Rig.N | Rig.Z | Rig.V | Rig.C;

    public static void main(String[] args) {
        loadStoreTest();
        addresses();
        sums();
        differences();
        manySumsAndDifferences();
        everyRegister();
        logic();
        clearNegateNot();
        everyShift();
        multiply();
        divide();
        divideWithSign();
        statusMoves();
        other();
        check();
        Rig.end("InstructionsTest");
    }

    /** D1 = source and D0 = target, the flags before all 1 or all 0, an instruction with r 0, m 0 and q 1. */
    private static Rig two(int op, int size, int target, int source, int flags) {
        return new Rig().d(0, target).d(1, source).status(Rig.S | flags).code(op, size, 0, 0, 1).steps(1).dueNoException();
    }

    private static void loadStoreTest() {
        int[][] cases = { // size, value, flags behind X
            {0, 0x80, Rig.N}, {0, 0x7F, 0}, {0, 0x100, Rig.Z}, {1, 0x8000, Rig.N}, {1, 0x7FFF, 0}, {1, 0x10000, Rig.Z},
            {2, 0x80000000, Rig.N}, {2, 1, 0}, {2, 0, Rig.Z}
        };
        for (int[] one : cases) {
            int low = one[0] == 0 ? 255 : one[0] == 1 ? 65535 : -1;
            int mixed = 0x55555555 & ~low | one[1] & low;
            two(Rig.LOAD, one[0], 0x55555555, one[1], ALL).dueD(0, mixed).dueFlags(Rig.X | one[2]);
            two(Rig.LOAD, one[0], 0x55555555, one[1], 0).dueFlags(one[2]);
            two(Rig.STORE, one[0], one[1], 0x55555555, ALL).dueD(1, mixed).dueD(0, one[1]).dueFlags(Rig.X | one[2]);
            two(Rig.TEST, one[0], 3, one[1], ALL).dueD(0, 3).dueD(1, one[1]).dueFlags(Rig.X | one[2]);
        }
    }

    private static void addresses() {
        Rig word = new Rig().d(1, 0x1234FFFE).status(Rig.S | ALL).code(Rig.LOADA, Rig.WORD, 2, 0, 1);
        word.steps(1).dueA(2, -2).dueFlags(ALL);
        new Rig().d(1, 0x12347FFE).code(Rig.LOADA, Rig.WORD, 2, 0, 1).steps(1).dueA(2, 0x7FFE).dueFlags(0);
        new Rig().d(1, 0x1234FFFE).code(Rig.LOADA, Rig.LONG, 2, 0, 1).steps(1).dueA(2, 0x1234FFFE).dueFlags(0);
        new Rig().a(3, 5).code(Rig.LOADA, Rig.LONG, 7, 1, 3).steps(1).dueA(7, 5);
        Rig sum = new Rig().d(1, 0x1234FFFE).a(2, 0x10001).status(Rig.S | ALL).code(Rig.ADDA, Rig.WORD, 2, 0, 1);
        sum.steps(1).dueA(2, 0xFFFF).dueFlags(ALL);
        new Rig().d(1, -1).a(2, 1).code(Rig.ADDA, Rig.LONG, 2, 0, 1).steps(1).dueA(2, 0).dueFlags(0);
        new Rig().a(2, 0x40000000).code(Rig.ADDA, Rig.LONG, 2, 1, 2).steps(1).dueA(2, 0x80000000).dueFlags(0);
        new Rig().a(3, 701).status(Rig.S | ALL).code(Rig.LEA, Rig.LONG, 2, 2, 3).steps(1).dueA(2, 701).dueFlags(ALL);
        new Rig().a(3, 701).code(Rig.LEA, Rig.LONG, 3, 5, 3, -1).steps(1).dueA(3, 700);
        new Rig().code(Rig.LEA, Rig.LONG, 2, 6, 0, -2).steps(1).dueA(2, -2).dueNoException();
        new Rig().code(Rig.LEA, Rig.LONG, 2, 6, 1, 0x1234, 0x5678).steps(1).dueA(2, 0x12345678);
        new Rig().code(Rig.LEA, Rig.LONG, 2, 6, 3, 10).steps(1).dueA(2, 524);
    }

    private static void sums() {
        int[][] cases = { // size, a, b, sum, flags
            {0, 0x7F, 1, 0x80, Rig.N | Rig.V}, {0, 0xFF, 1, 0, Rig.Z | Rig.C | Rig.X},
            {0, 0x80, 0x80, 0, Rig.Z | Rig.V | Rig.C | Rig.X}, {0, 1, 2, 3, 0}, {0, 0xFE, 0xFF, 0xFD, Rig.N | Rig.C | Rig.X},
            {1, 0x7FFF, 1, 0x8000, Rig.N | Rig.V}, {1, 0xFFFF, 1, 0, Rig.Z | Rig.C | Rig.X}, {1, 0xFF, 1, 0x100, 0},
            {1, 0x8000, 0xFFFF, 0x7FFF, Rig.V | Rig.C | Rig.X},
            {2, 0x7FFFFFFF, 1, 0x80000000, Rig.N | Rig.V}, {2, -1, 1, 0, Rig.Z | Rig.C | Rig.X},
            {2, 0xFFFF, 1, 0x10000, 0}, {2, -1, -1, -2, Rig.N | Rig.C | Rig.X}, {2, 0, 0, 0, Rig.Z}
        };
        for (int[] one : cases) {
            int rest = one[0] == 0 ? 0x77777700 : one[0] == 1 ? 0x77770000 : 0;
            for (int before = 0; before <= ALL; before += ALL) {
                two(Rig.ADD, one[0], rest | one[1], one[2], before).dueD(0, rest | one[3]).dueD(1, one[2]).dueFlags(one[4]);
                two(Rig.ADDTO, one[0], one[2], rest | one[1], before).dueD(1, rest | one[3]).dueD(0, one[2]).dueFlags(one[4]);
            }
        }
        Rig fromA = new Rig().d(0, 0x10001).a(1, 0xFFFF).code(Rig.ADD, Rig.WORD, 0, 1, 1);
        fromA.steps(1).dueD(0, 0x10000).dueFlags(Rig.Z | Rig.C | Rig.X);
    }

    private static void differences() {
        int[][] cases = { // size, a, b, a - b, flags
            {0, 0x80, 1, 0x7F, Rig.V}, {0, 0, 1, 0xFF, Rig.N | Rig.C | Rig.X}, {0, 5, 5, 0, Rig.Z},
            {0, 0x7F, 0xFF, 0x80, Rig.N | Rig.V | Rig.C | Rig.X}, {1, 0x8000, 1, 0x7FFF, Rig.V},
            {1, 0x100, 1, 0xFF, 0}, {1, 0, 0xFFFF, 1, Rig.C | Rig.X}, {2, 0x80000000, 1, 0x7FFFFFFF, Rig.V},
            {2, 0, 1, -1, Rig.N | Rig.C | Rig.X}, {2, 7, 7, 0, Rig.Z}, {2, -1, 1, -2, Rig.N},
            {2, 1, -1, 2, Rig.C | Rig.X}
        };
        for (int[] one : cases) {
            int rest = one[0] == 0 ? 0x77777700 : one[0] == 1 ? 0x77770000 : 0;
            for (int before = 0; before <= ALL; before += ALL) {
                two(Rig.SUB, one[0], rest | one[1], one[2], before).dueD(0, rest | one[3]).dueD(1, one[2]).dueFlags(one[4]);
                two(Rig.SUBTO, one[0], one[2], rest | one[1], before).dueD(1, rest | one[3]).dueD(0, one[2]).dueFlags(one[4]);
                two(Rig.CMP, one[0], rest | one[1], one[2], before).dueD(0, rest | one[1]).dueD(1, one[2])
                    .dueFlags(one[4] & ~Rig.X | before & Rig.X);
            }
        }
    }

    private static void manySumsAndDifferences() {
        int[] values = {0, 1, 2, 0x7F, 0x80, 0xFF, 0x7FFF, 0x8000, 0xFFFF, 0x10000, 0x7FFFFFFF, 0x80000000, -1, 0x12345678};
        for (int size = 0; size < 3; size++) {
            for (int a : values) {
                for (int b : values) {
                    two(Rig.ADD, size, a, b, 0).dueFlags(flagsOf(size, signed(a, size) + signed(b, size),
                        unsigned(a, size) + unsigned(b, size)));
                    two(Rig.SUB, size, a, b, 0).dueFlags(flagsOf(size, signed(a, size) - signed(b, size),
                        unsigned(a, size) - unsigned(b, size)));
                }
            }
        }
    }

    private static long signed(int value, int size) {
        return size == 0 ? (byte) value : size == 1 ? (short) value : value;
    }

    private static long unsigned(int value, int size) {
        return size == 0 ? value & 0xFF : size == 1 ? value & 0xFFFF : value & 0xFFFFFFFFL;
    }

    /** The flags of a sum that is told exactly, once with signs and once without. */
    private static int flagsOf(int size, long withSigns, long without) {
        int low = (int) withSigns;
        return (signed(low, size) < 0 ? Rig.N : 0) | (signed(low, size) == 0 ? Rig.Z : 0)
            | (signed(low, size) != withSigns ? Rig.V : 0) | (unsigned((int) without, size) != without ? Rig.C | Rig.X : 0);
    }

    /** The r of each kind of instruction counts. */
    private static void everyRegister() {
        for (int r = 0; r < 8; r++) {
            int q = r == 7 ? 0 : 7;
            new Rig().d(q, 9).code(Rig.LOAD, Rig.LONG, r, 0, q).steps(1).dueD(r, 9);
            new Rig().d(r, 9).code(Rig.STORE, Rig.LONG, r, 0, q).steps(1).dueD(q, 9);
            new Rig().d(q, 9).code(Rig.LOADA, Rig.LONG, r, 0, q).steps(1).dueA(r, 9);
            new Rig().d(r, 20).d(q, 9).code(Rig.ADD, Rig.LONG, r, 0, q).steps(1).dueD(r, 29).dueD(q, 9);
            new Rig().d(r, 20).d(q, 9).code(Rig.SUB, Rig.LONG, r, 0, q).steps(1).dueD(r, 11).dueD(q, 9);
            new Rig().d(r, 20).d(q, 9).code(Rig.SUBTO, Rig.LONG, r, 0, q).steps(1).dueD(r, 20).dueD(q, -11);
            new Rig().d(r, 20).code(Rig.SHIFT, Rig.LONG, r, 3, 2).steps(1).dueD(r, 5);
            new Rig().d(r, 20).d(q, 9).code(Rig.MULTIPLY, Rig.WORD, r, 0, q).steps(1).dueD(r, 180).dueD(q, 9);
            new Rig().d(r, 20).d(q, 9).code(Rig.DIVIDE, Rig.WORD, r, 0, q).steps(1).dueD(r, 2 << 16 | 2).dueD(q, 9);
            new Rig().d(r, 20).d(q, 9).code(Rig.CHECK, Rig.WORD, r, 0, q).steps(1).dueException(6);
        }
    }

    private static void logic() {
        two(Rig.AND, Rig.BYTE, 0x777777F0, 0x88, ALL).dueD(0, 0x77777780).dueFlags(Rig.X | Rig.N);
        two(Rig.AND, Rig.WORD, 0x7777F00F, 0xFF0, 0).dueD(0, 0x77770000).dueFlags(Rig.Z);
        two(Rig.AND, Rig.LONG, 0x70000003, 0x70000001, ALL).dueD(0, 0x70000001).dueFlags(Rig.X);
        two(Rig.OR, Rig.BYTE, 0x77777770, 0x88, 0).dueD(0, 0x777777F8).dueFlags(Rig.N);
        two(Rig.OR, Rig.WORD, 0x77770000, 0x10000, ALL).dueD(0, 0x77770000).dueFlags(Rig.X | Rig.Z);
        two(Rig.OR, Rig.LONG, 1, 0x10000, 0).dueD(0, 0x10001).dueFlags(0);
        two(Rig.XOR, Rig.BYTE, 0x777777FF, 0xFF, ALL).dueD(0, 0x77777700).dueFlags(Rig.X | Rig.Z);
        two(Rig.XOR, Rig.WORD, 0x7777FFFF, 0x7FFF, 0).dueD(0, 0x77778000).dueFlags(Rig.N);
        two(Rig.XOR, Rig.LONG, 0x70000003, 0x70000001, ALL).dueD(0, 2).dueFlags(Rig.X);
    }

    private static void clearNegateNot() {
        for (int size = 0; size < 3; size++) {
            int low = size == 0 ? 255 : size == 1 ? 65535 : -1;
            two(Rig.CLEAR, size, 9, 0x87654321, ALL).dueD(1, 0x87654321 & ~low).dueD(0, 9).dueFlags(Rig.X | Rig.Z);
            two(Rig.NOT, size, 9, 0x87654321, ALL).dueD(1, 0x87654321 ^ low).dueFlags(Rig.X | (size == 2 ? 0 : Rig.N));
            two(Rig.NOT, size, 9, -1, 0).dueD(1, -1 ^ low).dueFlags(Rig.Z);
            two(Rig.NEGATE, size, 9, 0, ALL).dueD(1, 0).dueFlags(Rig.Z);
            two(Rig.NEGATE, size, 9, 1, 0).dueD(1, low).dueFlags(Rig.N | Rig.C | Rig.X);
            two(Rig.NEGATE, size, 9, low, 0).dueD(1, 1).dueFlags(Rig.C | Rig.X);
            int least = size == 0 ? 0x80 : size == 1 ? 0x8000 : 0x80000000;
            two(Rig.NEGATE, size, 9, least, 0).dueD(1, least).dueFlags(Rig.N | Rig.V | Rig.C | Rig.X);
        }
        clearDoesNotRead();
    }

    /** Reading 61442 would take the byte that came. */
    private static void clearDoesNotRead() {
        Rig rig = new Rig().status(Rig.S | 0x700).code(Rig.CLEAR, Rig.BYTE, 0, 6, 1, 0, 61442);
        rig.x.comes(65);
        rig.steps(1);
        Rig.due("the byte is there still", rig.x.comes(66) ? 1 : 0, 0);
    }

    private static void everyShift() {
        int[] values = {0, 1, -1, 0x80, 0x40, 0xC0, 0x8000, 0x4000, 0x80000000, 0x40000000, 0x12345678, 0xA5C3A5C3, 0x77777781};
        for (int size = 0; size < 3; size++) {
            for (int kind = 0; kind < 6; kind++) {
                for (int q = 0; q < 8; q++) {
                    for (int value : values) {
                        oneShift(size, kind, q, value);
                    }
                }
            }
        }
        shift(0, 0, 1, 0x77777740, 0).dueD(0, 0x77777780).dueFlags(Rig.N | Rig.V);
        shift(0, 0, 2, 0x20, ALL).dueD(0, 0x80).dueFlags(Rig.N | Rig.V);
        shift(0, 0, 2, 0x60, 0).dueD(0, 0x80).dueFlags(Rig.N | Rig.V | Rig.C | Rig.X);
        shift(0, 0, 2, 0x40, 0).dueD(0, 0).dueFlags(Rig.Z | Rig.V | Rig.C | Rig.X);
        shift(0, 2, 2, 0x40, 0).dueD(0, 0).dueFlags(Rig.Z | Rig.C | Rig.X);
        shift(1, 0, 1, 0xC000, 0).dueD(0, 0x8000).dueFlags(Rig.N | Rig.C | Rig.X);
        shift(1, 1, 3, 0x8004, ALL).dueD(0, 0xF000).dueFlags(Rig.N | Rig.C | Rig.X);
        shift(0, 1, 0, 0x80, 0).dueD(0, 0xFF).dueFlags(Rig.N | Rig.C | Rig.X);
        shift(2, 3, 1, 0x80000000, ALL).dueD(0, 0x40000000).dueFlags(0);
        shift(0, 3, 0, 0x80, 0).dueD(0, 0).dueFlags(Rig.Z | Rig.C | Rig.X);
        shift(0, 4, 0, 0x81, 0).dueD(0, 0x81).dueFlags(Rig.N | Rig.C);
        shift(1, 4, 1, 0x8000, Rig.X | Rig.V).dueD(0, 1).dueFlags(Rig.X | Rig.C);
        shift(2, 5, 1, 1, Rig.V).dueD(0, 0x80000000).dueFlags(Rig.N | Rig.C);
        shift(0, 5, 0, 0x01, ALL).dueD(0, 1).dueFlags(Rig.X);
    }

    private static Rig shift(int size, int kind, int q, int value, int flags) {
        return new Rig().d(0, value).status(Rig.S | flags).code(Rig.SHIFT, size, 0, kind, q).steps(1).dueNoException();
    }

    /** A row of truth values, lowest first, moved one place at a time. */
    private static void oneShift(int size, int kind, int q, int value) {
        int bits = 8 << size;
        boolean[] row = new boolean[bits];
        for (int i = 0; i < bits; i++) {
            row[i] = (value >> i & 1) == 1;
        }
        boolean out = false;
        boolean changed = false;
        for (int n = q == 0 ? 8 : q; n > 0; n--) {
            boolean top = row[bits - 1];
            boolean[] next = new boolean[bits];
            out = kind % 2 == 0 ? top : row[0];
            for (int i = 0; i < bits; i++) {
                int from = kind % 2 == 0 ? i - 1 : i + 1;
                boolean in = kind == 1 ? top : kind > 3 && out;
                next[i] = from >= 0 && from < bits ? row[from] : in;
            }
            row = next;
            changed |= row[bits - 1] != top;
        }
        int low = 0;
        for (int i = 0; i < bits; i++) {
            low |= row[i] ? 1 << i : 0;
        }
        int mask = bits == 32 ? -1 : (1 << bits) - 1;
        int flags = (row[bits - 1] ? Rig.N : 0) | (low == 0 ? Rig.Z : 0) | (kind == 0 && changed ? Rig.V : 0)
            | (out ? Rig.C : 0);
        for (int before = 0; before <= ALL; before += ALL) {
            int x = kind > 3 ? before & Rig.X : out ? Rig.X : 0;
            shift(size, kind, q, value, before).dueD(0, value & ~mask | low).dueFlags(flags | x);
        }
    }

    private static void multiply() {
        two(Rig.MULTIPLY, Rig.WORD, 0x1234FFFF, 0x5678FFFF, ALL).dueD(0, 0xFFFE0001).dueFlags(Rig.X | Rig.N);
        two(Rig.MULTIPLY, Rig.WORD, 300, 200, 0).dueD(0, 60000).dueFlags(0);
        two(Rig.MULTIPLY, Rig.WORD, 0x10000, 200, ALL).dueD(0, 0).dueFlags(Rig.X | Rig.Z);
        two(Rig.MULTIPLY, Rig.WORD, 0x8000, 0x8000, 0).dueD(0, 0x40000000).dueFlags(0);
    }

    private static void divide() {
        two(Rig.DIVIDE, Rig.WORD, 100007, 0xFFFF000A, ALL).dueD(0, 7 << 16 | 10000).dueFlags(Rig.X);
        two(Rig.DIVIDE, Rig.WORD, 3, 10, ALL).dueD(0, 3 << 16).dueFlags(Rig.X | Rig.Z);
        two(Rig.DIVIDE, Rig.WORD, 0xFFFF * 2 + 1, 2, 0).dueD(0, 1 << 16 | 0xFFFF).dueFlags(Rig.N);
        two(Rig.DIVIDE, Rig.WORD, 0x20000, 2, ALL).dueD(0, 0x20000).dueFlags(ALL & ~Rig.C);
        two(Rig.DIVIDE, Rig.WORD, -1, 0xFFFF, 0).dueD(0, -1).dueFlags(Rig.V);
        two(Rig.DIVIDE, Rig.WORD, 7, 1, 0).dueD(0, 7).dueFlags(0);
        two(Rig.DIVIDES, Rig.WORD, -7, 1, 0).dueD(0, 0xFFF9).dueFlags(Rig.N);
        two(Rig.DIVIDE, Rig.WORD, 0xFFFEFFFF, 0xFFFF, 0).dueD(0, 0xFFFEFFFF).dueFlags(Rig.N);
        Rig zero = new Rig().d(0, 5).d(1, 0x10000).status(Rig.S | ALL).code(Rig.DIVIDE, Rig.WORD, 0, 0, 1);
        zero.steps(1).dueException(5).dueShortFrame(Rig.S | ALL, 514).dueD(0, 5).dueFlags(ALL);
        Rig none = new Rig().d(0, 5).code(Rig.DIVIDES, Rig.WORD, 0, 6, 2, 0).status(Rig.S);
        none.steps(1).dueException(5).dueShortFrame(Rig.S, 516).dueD(0, 5).dueFlags(0);
    }

    private static void divideWithSign() {
        two(Rig.DIVIDES, Rig.WORD, -7, 2, ALL).dueD(0, 0xFFFFFFFD).dueFlags(Rig.X | Rig.N);
        two(Rig.DIVIDES, Rig.WORD, 7, 0xFFFE, 0).dueD(0, 0x0001FFFD).dueFlags(Rig.N);
        two(Rig.DIVIDES, Rig.WORD, -7, 0xFFFE, 0).dueD(0, 0xFFFF0003).dueFlags(0);
        two(Rig.DIVIDES, Rig.WORD, -1, 2, 0).dueD(0, 0xFFFF0000).dueFlags(Rig.Z);
        two(Rig.DIVIDES, Rig.WORD, 32767 * 3, 3, 0).dueD(0, 32767).dueFlags(0);
        two(Rig.DIVIDES, Rig.WORD, 32768 * 3, 3, ALL).dueD(0, 32768 * 3).dueFlags(ALL & ~Rig.C);
        two(Rig.DIVIDES, Rig.WORD, -32768 * 3, 3, 0).dueD(0, 0x8000).dueFlags(Rig.N);
        two(Rig.DIVIDES, Rig.WORD, -32769 * 3, 3, 0).dueD(0, -32769 * 3).dueFlags(Rig.V);
        two(Rig.DIVIDES, Rig.WORD, Integer.MIN_VALUE, 0xFFFF, 0).dueD(0, Integer.MIN_VALUE).dueFlags(Rig.V);
    }

    private static void statusMoves() {
        Rig sets = new Rig().d(1, 0xFFFF).code(Rig.SETS, Rig.WORD, 0, 0, 1).steps(1).dueStatus(42783);
        sets.duePc(514).dueA(7, Rig.STACK);
        Rig user = new Rig().code(Rig.SETS, Rig.WORD, 0, 6, 2, 5).steps(1).dueStatus(5);
        user.dueA(7, Rig.USER_STACK);
        Rig pops = new Rig().memory(Rig.STACK, 4).code(Rig.SETS, Rig.WORD, 0, 3, 7).steps(1).dueStatus(4);
        Rig.due("the supervisor's stack has grown", pops.x.get(Rig.OTHER_STACK), Rig.STACK + 2);
        new Rig().d(1, -1).status(Rig.S | ALL).code(Rig.GETS, Rig.WORD, 0, 0, 1).steps(1)
            .dueD(1, 0xFFFF0000 | Rig.S | ALL).dueStatus(Rig.S | ALL);
        new Rig().status(0x300).code(Rig.GETS, Rig.WORD, 0, 4, 7).steps(1)
            .dueA(7, Rig.USER_STACK - 2).dueWord(Rig.USER_STACK - 2, 0x300).dueNoException();
    }

    private static void other() {
        Rig to = new Rig().a(2, 77).code(Rig.OTHER, Rig.BYTE, 0, 0, 2).steps(1);
        Rig.due("OTHER", to.x.get(Rig.OTHER_STACK), 77);
        to.dueA(2, 77).dueA(7, Rig.STACK);
        for (int m = 1; m < 8; m++) {
            Rig from = new Rig().code(Rig.OTHER, 3, 5, m, 2).steps(1).dueA(2, Rig.USER_STACK);
            Rig.due("OTHER", from.x.get(Rig.OTHER_STACK), Rig.USER_STACK);
        }
        new Rig().code(Rig.OTHER, Rig.LONG, 0, 1, 7).steps(1).dueA(7, Rig.USER_STACK);
    }

    private static void check() {
        two(Rig.CHECK, Rig.WORD, 0x12340005, 5, ALL).dueFlags(ALL).duePc(514);
        two(Rig.CHECK, Rig.WORD, 0, 0, Rig.N).dueFlags(Rig.N);
        two(Rig.CHECK, Rig.WORD, 0x7FFF, 0x7FFF, 0).dueFlags(0);
        checked(6, 5, ALL, ALL & ~Rig.N);
        checked(6, 5, 0, 0);
        checked(0x8000, 0x7FFF, 0, Rig.N);
        checked(-1, -1, Rig.Z, Rig.N | Rig.Z);
        checked(0, 0xFFFF, ALL, ALL & ~Rig.N);
        checked(0x10006, 0x10005, 0, 0);
    }

    private static void checked(int own, int bound, int before, int flags) {
        new Rig().d(0, own).d(1, bound).status(Rig.S | before).code(Rig.CHECK, Rig.WORD, 0, 0, 1).steps(1)
            .dueException(6).dueFlags(flags).dueShortFrame(Rig.S | flags, 514);
    }
}
